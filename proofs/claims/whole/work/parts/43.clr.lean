def stS (a : AP) (C : Nat → Int32) (i : Nat) (s : Int32 × Int32) : Int32 × Int32 := if bt2 (aS a) i = 0 ∧ ¬ s.1 ≤ C i then (C i, nI i) else s
theorem okk_stop : ok_stop Inv := by
  rintro ⟨n, m, q, hh, P, le, nu, rf, pq⟩ ⟨c, th, le6, qz, ks, hi, td, ro, se, rf6, kp, ig, ts, tf, hd, gn⟩ p1 ⟨a, hS, hT, g, ho, hrf, hle, hro, him, hpa⟩
  dsimp only at hS hT hrf hle hro him hpa
  have h9 := g.1
  have s5 := g.s512
  unfold p_X5_stop
  rcases out3 p1 0 60 (by omega) (by omega) with ⟨w, hw1, hw, rfl⟩ | h | ⟨h1, h2⟩
  · let C : Nat → Int32 := fun i => nI (aC (flowsA (blkA a i) w))
    let s0 : Int32 × Int32 := (nI (aC (flowsA a w)), -9)
    have st : ∀ {x y : Int32} {j : Nat}, (x, y) = pre (stS a C) s0 j → bt2 (aS a) j = 0 → ¬ x ≤ C j → (C j, nI j) = pre (stS a C) s0 (j + 1) := by
      intro x y j h1 h2 h3
      show _ = stS a C j (pre (stS a C) s0 j)
      rw [← h1]
      exact (if_pos ⟨h2, h3⟩).symm
    have sf : ∀ {x y : Int32} {j : Nat}, (x, y) = pre (stS a C) s0 j → ¬ (bt2 (aS a) j = 0 ∧ ¬ x ≤ C j) → (x, y) = pre (stS a C) s0 (j + 1) := by
      intro x y j h1 h2
      show _ = stS a C j (pre (stS a C) s0 j)
      rw [← h1]
      exact (if_neg h2).symm
    refine sp_out_ok (lo := 0) (hi := 60) hw1 hw (by omega) (br_t rfl (sp_think5 hS (fun m1 hm1 => sp_cupBehind hm1 g (by omega) (fun m2 hm2 => ?_))))
    refine lpN_up (aN a) (fun j z => (z.1, z.2.1) = pre (stS a C) s0 j ∧ z.2.2.1 = nI j) (by omega) ?_ ?_ _ ⟨rfl, rfl⟩
    · rintro K j ⟨x, y, i, t⟩ hj ⟨w1, w2⟩ hK
      dsimp only at w1 w2
      subst w2
      refine sp_houses hS (bLe (aN a) j rfl rfl (by omega) (by omega) (fun w => absurd w (by omega)) (fun _ => sp_isBlk hS g hj ?_))
      rcases bt2_or (aS a) j with b | b
      · rw [b]
        refine br_t rfl (sp_think5 hS (fun m1 hm1 => sp_block hm1 g hj (fun m2 hm2 => sp_cupBehind hm2 (g.blk hj) (by omega) (fun m3 _ => ?_))))
        exact ⟨fun r => hK _ ⟨sf w1 (fun h => h.2 r), nI_1 j⟩, fun r => hK _ ⟨st w1 b r, nI_1 j⟩⟩
      · rw [b]
        exact br_f (by decide) (hK _ ⟨sf w1 (fun h => by rw [b] at h; exact absurd h.1 (by decide)), nI_1 j⟩)
    · rintro K ⟨x, y, i, t⟩ ⟨w1, w2⟩
      dsimp only at w1 w2
      subst w2
      refine sp_houses hS (bLe (aN a) (aN a) rfl rfl (by omega) (by omega) (fun _ => ?_) (fun w => absurd w (by omega)))
      unfold p_X6_stop
      refine sp_wn_ok (lo := 0) (hi := 60) hw1 hw (by omega) (br_t (by decide) (sp_think6 hT (fun c' ks' kp' hc hkk => sp_cupThen hc g hkk (by omega) (fun t' ks2 ht' => ?_))))
      refine lpN_up (aN a) (fun j (x, y, i, k1, k2, k3, k4, k5, k6, k7, k8, k9, k0, _, _, _, kk) => (y, x) = pre (stS a C) s0 j ∧ i = nI j ∧ RP (k1, k2, k3, k4, k5, k6, k7, k8, k9, k0) a ∧ RK kk a) (by omega) ?_ ?_ _ ⟨rfl, rfl, ht', hkk⟩
      · rintro K j ⟨x, y, i, k1, k2, k3, k4, k5, k6, k7, k8, k9, k0, l1, l2, l3, kk⟩ hj ⟨w1, w2, w3, w4⟩ hK
        subst w2
        refine bLe (aN a) j w3.2.1 rfl (by omega) (by omega) (fun w => absurd w (by omega)) (fun _ => sp_hasBitE (s := aS a) w3.2.2.1 (by omega) (by omega) ?_)
        rcases bt2_or (aS a) j with b | b
        · rw [b]
          refine br_t rfl (nm_in (fun st2 est => ?_))
          have hb := w3.setS (s := aS a ||| 2 ^ j) (est.trans (blk_e (by omega) w3.2.2.1))
          refine sp_cupThen (b := blkA a j) hb (g.blk hj) w4 (by omega) (fun t2 ks3 ht2 => ?_)
          exact ⟨fun r => ⟨fun _ => hK _ ⟨sf w1 (fun h => h.2 r), nI_1 j, ht2, w4⟩, fun r2 => absurd r r2⟩, fun r => ⟨fun r2 => absurd r2 r, fun _ => hK _ ⟨st w1 b r, nI_1 j, ht2, w4⟩⟩⟩
        · rw [b]
          exact br_f (by decide) (hK _ ⟨sf w1 (fun h => by rw [b] at h; exact absurd h.1 (by decide)), nI_1 j, w3, w4⟩)
      · rintro K ⟨x2, y2, i, k1, k2, k3, k4, k5, k6, k7, k8, k9, k0, l1, l2, l3, kk⟩ ⟨w1', w2, w3, w4⟩
        subst w2
        have w6 := w1.trans w1'.symm
        injection w6 with f1 f2
        exact bLe (aN a) (aN a) w3.2.1 rfl (by omega) (by omega) (fun _ => ⟨f2, a, hS, w3, g, ho, hrf, hle, hro, him, hpa⟩) (fun w => absurd w (by omega))
  · refine sp_out_lo h (br_f (by decide) (sp_ref5 isR4 ?_))
    unfold p_X6_stop
    refine sp_wn_lo h (br_f (by decide) (sp_ref6 isR4 ?_))
    exact ⟨rfl, a, hS, hT, g, ho, hrf.s _, hle, hro, him, hpa⟩
  · refine sp_out_hi h1 h2 (br_f (by decide) (sp_ref5 isR6 ?_))
    unfold p_X6_stop
    refine sp_wn_hi h1 h2 (br_f (by decide) (sp_ref6 isR6 ?_))
    exact ⟨rfl, a, hS, hT, g, ho, hrf.s _, hle, hro, him, hpa⟩
/-! freeing sets -/
theorem bv_without (x y : BitVec 32) : x &&& (y ^^^ BitVec.allOnes 32) = x ^^^ (x &&& y) := by
  rw [BitVec.xor_allOnes]
  apply BitVec.eq_of_getLsbD_eq
  intro i hi
  simp [hi]
  cases x[i] <;> cases y[i] <;> rfl
theorem without (x y : Nat) : nI x &&& (nI y ^^^ (-1 : Int32)) = nI (x ^^^ (x &&& y)) := by
  rw [← fa_xor, ← fa_and]
  apply Int32.toBitVec_inj.mp
  show (nI x).toBitVec &&& ((nI y).toBitVec ^^^ (-1 : Int32).toBitVec) = (nI x).toBitVec ^^^ ((nI x).toBitVec &&& (nI y).toBitVec)
  rw [show (-1 : Int32).toBitVec = BitVec.allOnes 32 by decide]
  exact bv_without _ _
def freeN (s i : Nat) : Nat := s ^^^ (s &&& i)
theorem freeN_lt {s i n : Nat} (h : s < 2 ^ n) : freeN s i < 2 ^ n := Nat.xor_lt_two_pow h (Nat.lt_of_le_of_lt Nat.and_le_left h)
theorem xor_z {x y : Nat} (h : x ^^^ y = 0) : x = y := by
  have : x = (x ^^^ y) ^^^ y := by rw [Nat.xor_assoc, Nat.xor_self, Nat.xor_zero]
  rw [this, h, Nat.zero_xor]
def clS (S : Nat) (C : Nat → Nat) (i : Nat) (s : Nat × Nat) : Nat × Nat := if i &&& S = i ∧ (s.1 < C i ∨ (C i = s.1 ∧ pop i < pop s.2)) then (C i, i) else s
def clA (S : Nat) (C : Nat → Nat) (j : Nat) : Nat × Nat := pre (clS S C) (C 0, 0) j
theorem cl_lt {S : Nat} {C : Nat → Nat} (hC : ∀ i, C i ≤ 9999) : ∀ j, j ≤ 512 → (clA S C j).1 ≤ 9999 ∧ (clA S C j).2 < 512
  | 0, _ => ⟨hC 0, by show 0 < 512; omega⟩
  | j + 1, h => by
    have ih := cl_lt (S := S) hC j (by omega)
    show (clS S C j (clA S C j)).1 ≤ 9999 ∧ (clS S C j (clA S C j)).2 < 512
    unfold clS
    split
    · exact ⟨hC j, by show j < 512; omega⟩
    · exact ih
theorem cl_t {S : Nat} {C : Nat → Nat} {j : Nat} (h : j &&& S = j) (h2 : (clA S C j).1 < C j ∨ (C j = (clA S C j).1 ∧ pop j < pop (clA S C j).2)) : clA S C (j + 1) = (C j, j) := if_pos ⟨h, h2⟩
theorem cl_f {S : Nat} {C : Nat → Nat} {j : Nat} (h : ¬ (j &&& S = j ∧ ((clA S C j).1 < C j ∨ (C j = (clA S C j).1 ∧ pop j < pop (clA S C j).2)))) : clA S C (j + 1) = clA S C j := if_neg h
theorem cl_1 {S : Nat} {C : Nat → Nat} : clA S C 1 = (C 0, 0) := by
  refine cl_f (j := 0) ?_
  rintro ⟨-, h | ⟨-, h⟩⟩
  · exact absurd h (Nat.lt_irrefl _)
  · exact absurd h (Nat.lt_irrefl _)
theorem cl_past {S : Nat} {C : Nat → Nat} : ∀ d, clA S C (S + 1 + d) = clA S C (S + 1)
  | 0 => rfl
  | d + 1 => by
    rw [show S + 1 + (d + 1) = (S + 1 + d) + 1 by omega, cl_f ?_]
    · exact cl_past d
    · rintro ⟨h, -⟩
      have : (S + 1 + d) &&& S ≤ S := Nat.and_le_right
      omega
set_option maxHeartbeats 1000000 in
theorem okk_clearing : ok_clearing Inv := by
  rintro ⟨n, m, q, hh, P, le, nu, rf, pq⟩ ⟨c, th, le6, qz, ks, hi, td, ro, se, rf6, kp, ig, ts, tf, hd, gn⟩ p1 ⟨a, hS, hT, g, ho, hrf, hle, hro, him, hpa⟩
  dsimp only at hS hT hrf hle hro him hpa
  have h9 := g.1
  have s5 := g.s512
  unfold p_X5_clearing
  rcases out3 p1 0 60 (by omega) (by omega) with ⟨w, hw1, hw, rfl⟩ | h | ⟨h1, h2⟩
  · let D : Nat → AP := fun i => setS a (freeN (aS a) i)
    have gD : ∀ i, GP (D i) := fun i => g.setS (freeN_lt g.2.2.2.1)
    let C : Nat → Nat := fun i => aC (flowsA (D i) w)
    have hC : ∀ i, C i ≤ 9999 := fun i => ((gD i).flows w).2.2.2.2.2
    have b512 : 2 ^ aN a ≤ 512 := Nat.pow_le_pow_right (n := 2) (by decide) h9
    have sl := g.2.2.2.1
    refine sp_out_ok (lo := 0) (hi := 60) hw1 hw (by omega) (br_t rfl (sp_blkBits hS ?_))
    refine lpN_up (aS a + 1) (fun j z => ((j = 0 ∧ z.1 = -9 ∧ z.2.1 = 0) ∨ (0 < j ∧ z.1 = nI (clA (aS a) C j).1 ∧ z.2.1 = nI (clA (aS a) C j).2)) ∧ z.2.2.1 = nI j) (by omega) ?_ ?_ _ ⟨Or.inl ⟨rfl, rfl, rfl⟩, rfl⟩
    · rintro K j ⟨x, y, i, t⟩ hj ⟨w1, w2⟩ hK
      dsimp only at w1 w2
      subst w2
      obtain ⟨c1, c2⟩ := cl_lt (S := aS a) hC j (by omega)
      refine bLt (aS a) j rfl rfl (by omega) (by omega) (fun w => absurd w (by omega)) (fun _ => ?_)
      refine bEq (j &&& aS a) j (fa_and _ _) rfl (Nat.lt_of_le_of_lt Nat.and_le_left (by omega)) (by omega) (fun e => ?_) (fun e => ?_)
      · refine sp_think5 hS (fun m1 hm1 => ?_)
        unfold p_X3_free
        refine nm_in (fun st est => ?_)
        have est' : st = nI (freeN (aS a) j) := est.trans (by rw [hm1.2.2.1]; exact without _ _)
        refine sp_cupBehind (hm1.setS est') (gD j) (by omega) (fun m2 hm2 => sp_bc (by omega) ?_)
        rcases w1 with ⟨rfl, rfl, rfl⟩ | ⟨j0, rfl, rfl⟩
        · refine sp_bc (x := 0) (by omega) ?_
          have fin : ∀ t', K (nI (C 0), 0, nI 0 + 1, t') := fun t' => hK _ ⟨Or.inr ⟨by omega, by rw [cl_1], by rw [cl_1]; rfl⟩, nI_1 0⟩
          have lt : (-9 : Int32) < nI (C 0) := Int32.lt_of_lt_of_le (show (-9 : Int32) < 0 by decide) (nI_pos' (by have := hC 0; omega))
          exact bLe (pop 0) (pop 0) rfl rfl (by decide) (by decide) (fun _ => br_t lt (fin _)) (fun w => absurd w (by omega))
        · refine sp_bc (x := (clA (aS a) C j).2) c2 ?_
          have p1 := pop_le j
          have p2 := pop_le (clA (aS a) C j).2
          have hCj := hC j
          have yes : ∀ t', ((clA (aS a) C j).1 < C j ∨ (C j = (clA (aS a) C j).1 ∧ pop j < pop (clA (aS a) C j).2)) → K (nI (C j), nI j, nI j + 1, t') := fun t' h => hK _ ⟨Or.inr ⟨by omega, by rw [cl_t e h], by rw [cl_t e h]⟩, nI_1 j⟩
          have no : ∀ t', ¬ ((clA (aS a) C j).1 < C j ∨ (C j = (clA (aS a) C j).1 ∧ pop j < pop (clA (aS a) C j).2)) → K (nI (clA (aS a) C j).1, nI (clA (aS a) C j).2, nI j + 1, t') := fun t' h => hK _ ⟨Or.inr ⟨by omega, by rw [cl_f (fun q => h q.2)], by rw [cl_f (fun q => h q.2)]⟩, nI_1 j⟩
          refine bLe (pop (clA (aS a) C j).2) (pop j) rfl rfl (by omega) (by omega) (fun q => ?_) (fun q => ?_)
          · refine bLt (clA (aS a) C j).1 (C j) rfl rfl (by omega) (by omega) (fun r => yes _ (Or.inl r)) (fun r => bEq (C j) (clA (aS a) C j).1 rfl rfl (by omega) (by omega) (fun r2 => br_t rfl (no _ (by omega))) (fun r2 => no _ (by omega)))
          · refine bLt (clA (aS a) C j).1 (C j) rfl rfl (by omega) (by omega) (fun r => yes _ (Or.inl r)) (fun r => bEq (C j) (clA (aS a) C j).1 rfl rfl (by omega) (by omega) (fun r2 => br_f (show ¬ (1 : Int32) = 0 by decide) (yes _ (Or.inr ⟨r2, q⟩))) (fun r2 => no _ (by omega)))
      · rcases w1 with ⟨rfl, rfl, rfl⟩ | ⟨j0, rfl, rfl⟩
        · exact absurd (Nat.zero_and _) e
        · exact hK _ ⟨Or.inr ⟨by omega, by rw [cl_f (fun q => e q.1)], by rw [cl_f (fun q => e q.1)]⟩, nI_1 j⟩
    · rintro K ⟨x, y, i, t⟩ ⟨w1, w2⟩
      dsimp only at w1 w2
      subst w2
      rcases w1 with ⟨w1, -⟩ | ⟨-, -, rfl⟩
      · omega
      refine bLt (aS a) (aS a + 1) rfl rfl (by omega) (by omega) (fun _ => ?_) (fun w => absurd w (by omega))
      unfold p_X6_clearing
      refine sp_wn_ok (lo := 0) (hi := 60) hw1 hw (by omega) (br_t (by decide) (sp_think6 hT (fun c' ks' kp' hc hkk => ?_)))
      refine lpN_up (2 ^ aN a) (fun j (x, y, i, k1, k2, k3, k4, k5, k6, k7, k8, k9, k0, _, _, _, kk) => ((j = 0 ∧ x = 0 ∧ y = -1) ∨ (0 < j ∧ y = nI (clA (aS a) C j).1 ∧ x = nI (clA (aS a) C j).2)) ∧ i = nI j ∧ RP (k1, k2, k3, k4, k5, k6, k7, k8, k9, k0) a ∧ RK kk a) (by omega) ?_ ?_ _ ⟨Or.inl ⟨rfl, rfl, rfl⟩, rfl, hc, hkk⟩
      · rintro K j ⟨x, y, i, k1, k2, k3, k4, k5, k6, k7, k8, k9, k0, l1, l2, l3, kk⟩ hj ⟨w1, w2, w3, w4⟩ hK
        subst w2
        have hb9 : (1 : Int32) <<< (k5 &&& 31) = nI (2 ^ aN a) := by
          rw [show k5 = nI (aN a) from w3.2.1]
          exact shl9 _ (by omega)
        have e3 : k6 = nI (aS a) := w3.2.2.1
        obtain ⟨c1, c2⟩ := cl_lt (S := aS a) hC j (by omega)
        refine bLe (2 ^ aN a) j hb9 rfl (by omega) (by omega) (fun w => absurd w (by omega)) (fun _ => ?_)
        refine eq0 (j ^^^ (j &&& aS a)) ?_ (Nat.lt_of_lt_of_le (Nat.xor_lt_two_pow (n := 9) (by omega) (Nat.lt_of_le_of_lt Nat.and_le_left (by omega))) (by decide)) (fun e => ?_) (fun e => ?_)
        · show nI j &&& (k6 ^^^ (-1 : Int32)) = _
          rw [e3]
          exact without _ _
        · have e' : j &&& aS a = j := (xor_z e).symm
          refine nm_in (fun st est => ?_)
          have est' : st = nI (freeN (aS a) j) := est.trans (by
            show k6 &&& (nI j ^^^ (-1 : Int32)) = _
            rw [e3]; exact without _ _)
          refine sp_cupThen (b := D j) (w3.setS est') (gD j) w4 (by omega) (fun t2 ks3 ht2 => ?_)
          have hCj := hC j
          have leE : ∀ {A B : Prop} {v : Int32}, (nI (C j) ≤ v → A) → (¬ nI (C j) ≤ v → B) → (nI (C j) ≤ v → A) ∧ (¬ nI (C j) ≤ v → B) := fun f g => ⟨f, g⟩
          rcases w1 with ⟨rfl, rfl, rfl⟩ | ⟨j0, rfl, rfl⟩
          · have lt : (-1 : Int32) < nI (C 0) := Int32.lt_of_lt_of_le (show (-1 : Int32) < 0 by decide) (nI_pos' (by omega))
            refine br_t lt (br_f (Int32.not_le.mpr lt) (hK _ ⟨Or.inr ⟨by omega, by rw [cl_1], by rw [cl_1]⟩, nI_1 0, ht2, w4⟩))
          · have p1 := pop_le j
            have p2 := pop_le (clA (aS a) C j).2
            have yes : ((clA (aS a) C j).1 < C j ∨ (C j = (clA (aS a) C j).1 ∧ pop j < pop (clA (aS a) C j).2)) → ∀ v : Int32, v = nI (C j) → K (nI j, v, nI j + 1, t2.1, t2.2.1, t2.2.2.1, t2.2.2.2.1, t2.2.2.2.2.1, t2.2.2.2.2.2.1, t2.2.2.2.2.2.2.1, t2.2.2.2.2.2.2.2.1, t2.2.2.2.2.2.2.2.2.1, t2.2.2.2.2.2.2.2.2.2, ks3.1, ks3.2.1, ks3.2.2, kk) := fun h v ev => hK _ ⟨Or.inr ⟨by omega, by rw [cl_t e' h]; exact ev, by rw [cl_t e' h]⟩, nI_1 j, ht2, w4⟩
            have no : ¬ ((clA (aS a) C j).1 < C j ∨ (C j = (clA (aS a) C j).1 ∧ pop j < pop (clA (aS a) C j).2)) → K (nI (clA (aS a) C j).2, nI (clA (aS a) C j).1, nI j + 1, t2.1, t2.2.1, t2.2.2.1, t2.2.2.2.1, t2.2.2.2.2.1, t2.2.2.2.2.2.1, t2.2.2.2.2.2.2.1, t2.2.2.2.2.2.2.2.1, t2.2.2.2.2.2.2.2.2.1, t2.2.2.2.2.2.2.2.2.2, ks3.1, ks3.2.1, ks3.2.2, kk) := fun h => hK _ ⟨Or.inr ⟨by omega, by rw [cl_f (fun q => h q.2)], by rw [cl_f (fun q => h q.2)]⟩, nI_1 j, ht2, w4⟩
            refine bLt (clA (aS a) C j).1 (C j) rfl rfl (by omega) (by omega) (fun r => ?_) (fun r => ?_)
            · exact bLe (C j) (clA (aS a) C j).1 rfl rfl (by omega) (by omega) (fun r2 => absurd r2 (by omega)) (fun _ => yes (Or.inl r) _ rfl)
            · refine bEq (C j) (clA (aS a) C j).1 rfl rfl (by omega) (by omega) (fun r2 => sp_ones (x := j) (by omega) (sp_ones (x := (clA (aS a) C j).2) c2 ?_)) (fun r2 => ?_)
              · refine bLe (pop (clA (aS a) C j).2) (pop j) rfl rfl (by omega) (by omega) (fun q => ?_) (fun q => ?_)
                · exact bLe (C j) (clA (aS a) C j).1 rfl rfl (by omega) (by omega) (fun _ => no (by omega)) (fun r3 => absurd r3 (by omega))
                · exact bLe (C j) (clA (aS a) C j).1 rfl rfl (by omega) (by omega) (fun _ => yes (Or.inr ⟨r2, q⟩) _ (by rw [r2])) (fun r3 => absurd r3 (by omega))
              · exact bLe (C j) (clA (aS a) C j).1 rfl rfl (by omega) (by omega) (fun _ => no (by omega)) (fun r3 => absurd r3 (by omega))
        · have e' : ¬ j &&& aS a = j := fun q => e (by rw [q, Nat.xor_self])
          rcases w1 with ⟨rfl, rfl, rfl⟩ | ⟨j0, rfl, rfl⟩
          · exact absurd (Nat.zero_and _) e'
          · exact hK _ ⟨Or.inr ⟨by omega, by rw [cl_f (fun q => e' q.1)], by rw [cl_f (fun q => e' q.1)]⟩, nI_1 j, w3, w4⟩
      · rintro K ⟨x, y, i, k1, k2, k3, k4, k5, k6, k7, k8, k9, k0, l1, l2, l3, kk⟩ ⟨w1, w2, w3, w4⟩
        subst w2
        have hb9 : (1 : Int32) <<< (k5 &&& 31) = nI (2 ^ aN a) := by
          rw [show k5 = nI (aN a) from w3.2.1]
          exact shl9 _ (by omega)
        have pz : 0 < 2 ^ aN a := Nat.pow_pos (by decide)
        rcases w1 with ⟨w1, -⟩ | ⟨-, -, w1⟩
        · omega
        subst w1
        have ep : clA (aS a) C (2 ^ aN a) = clA (aS a) C (aS a + 1) := by
          have := cl_past (S := aS a) (C := C) (2 ^ aN a - (aS a + 1))
          rw [show aS a + 1 + (2 ^ aN a - (aS a + 1)) = 2 ^ aN a by omega] at this
          exact this
        refine bLe (2 ^ aN a) (2 ^ aN a) hb9 rfl (by omega) (by omega) (fun _ => ⟨?_, a, hS, w3, g, ho, hrf, hle, hro, him, hpa⟩) (fun w => absurd w (by omega))
        rw [ep]
  · refine sp_out_lo h (br_f (by decide) (sp_ref5 isR4 ?_))
    unfold p_X6_clearing
    refine sp_wn_lo h (br_f (by decide) (sp_ref6 isR4 ?_))
    exact ⟨rfl, a, hS, hT, g, ho, hrf.s _, hle, hro, him, hpa⟩
  · refine sp_out_hi h1 h2 (br_f (by decide) (sp_ref5 isR6 ?_))
    unfold p_X6_clearing
    refine sp_wn_hi h1 h2 (br_f (by decide) (sp_ref6 isR6 ?_))
    exact ⟨rfl, a, hS, hT, g, ho, hrf.s _, hle, hro, him, hpa⟩
