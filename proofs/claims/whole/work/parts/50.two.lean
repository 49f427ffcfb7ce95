/-! two houses that choose -/
def chS (a : AP) (i x k y : Nat) : Nat := (aS a ||| (if x = 1 then 2 ^ i else 0)) ||| (if y = 1 then 2 ^ k else 0)
theorem chS_lt {a : AP} (g : GP a) {i x k y : Nat} (hi : i < aN a) (hk : k < aN a) : chS a i x k y < 2 ^ aN a := by
  unfold chS
  refine Nat.or_lt_two_pow (Nat.or_lt_two_pow g.2.2.2.1 ?_) ?_
  · split
    · exact Nat.pow_lt_pow_right (by decide) hi
    · exact Nat.pow_pos (by decide)
  · split
    · exact Nat.pow_lt_pow_right (by decide) hk
    · exact Nat.pow_pos (by decide)
theorem chS_comm (a : AP) (i x k y : Nat) : chS a i x k y = chS a k y i x := by
  unfold chS
  rw [Nat.or_assoc, Nat.or_assoc, Nat.or_comm (if x = 1 then 2 ^ i else 0)]
def gnI (a : AP) (z i x k y : Nat) : Int32 := nI (aH (flowsA (setS a (chS a i x k y)) z) i) - (3 : Int32) * nI x
theorem sp_gain {n m : PT} {a : AP} {i x k y z : Nat} {post : Int32 → PT → Prop} (h : RP n a) (g : GP a) (hi : i < aN a) (hk : k < aN a) (hx : x ≤ 1) (hy : y ≤ 1) (hz : z ≤ 30) (q : ∀ m', post (gnI a z i x k y) m') : p_X5_gain n m (nI i) (nI x) (nI k) (nI y) (nI z) post := by
  have h9 := g.1
  have gs : GP (setS a (chS a i x k y)) := g.setS (chS_lt g hi hk)
  have fin : ∀ t, RP t (setS a (chS a i x k y)) → p_X3_pass t (nI z) (fun (u7 : PT) => p_X3_holdsOf u7 (nI i) (fun (r9 : Int32) => post (r9 - ((3 : Int32) * nI x)) u7)) := by
    intro t ht
    refine sp_pass ht gs (by omega) (fun t2 ht2 => sp_holdsOf ht2 (gs.hours z) ?_ (q t2))
    show i < aN (flowsA (setS a (chS a i x k y)) z)
    rw [flows_N gs]
    exact hi
  have st2 : ∀ t, RP t (setS a (aS a ||| (if x = 1 then 2 ^ i else 0))) → ((nI y = (1 : Int32) → p_X3_block t (nI k) (fun (u10 : PT) => p_X3_pass u10 (nI z) (fun (u7 : PT) => p_X3_holdsOf u7 (nI i) (fun (r9 : Int32) => post (r9 - ((3 : Int32) * nI x)) u7)))) ∧ (¬ nI y = (1 : Int32) → p_X3_pass t (nI z) (fun (u7 : PT) => p_X3_holdsOf u7 (nI i) (fun (r9 : Int32) => post (r9 - ((3 : Int32) * nI x)) u7)))) := by
    intro t ht
    have gt : GP (setS a (aS a ||| (if x = 1 then 2 ^ i else 0))) := by
      refine g.setS (Nat.or_lt_two_pow g.2.2.2.1 ?_)
      split
      · exact Nat.pow_lt_pow_right (by decide) hi
      · exact Nat.pow_pos (by decide)
    rcases (show y = 0 ∨ y = 1 by omega) with rfl | rfl
    · have e : chS a i x k 0 = aS a ||| (if x = 1 then 2 ^ i else 0) := Nat.or_zero _
      refine br_f (by decide) (fin t ?_)
      rw [e]
      exact ht
    · exact br_t rfl (sp_block ht gt hk (fun t2 ht2 => fin t2 ht2))
  unfold p_X5_gain
  refine sp_think5 h (fun m' hm => ?_)
  rcases (show x = 0 ∨ x = 1 by omega) with rfl | rfl
  · refine br_f (by decide) (st2 m' ?_)
    rw [if_neg (by decide), Nat.or_zero]
    exact hm
  · refine br_t rfl (sp_block hm g hi (fun t2 ht2 => st2 t2 ?_))
    rw [if_pos (rfl : 1 = 1)]
    exact ht2
theorem fl1 : ∀ x, x ≤ 1 → (1 : Int32) - nI x = nI (1 - x) := by decide
theorem sp_content {n m : PT} {a : AP} {i x k y z : Nat} {post : Int32 → PT → Prop} (h : RP n a) (g : GP a) (hi : i < aN a) (hk : k < aN a) (hx : x ≤ 1) (hy : y ≤ 1) (hz : z ≤ 30) (q1 : gnI a z i x k y < gnI a z i (1 - x) k y → ∀ m', post 0 m') (q2 : ¬ gnI a z i x k y < gnI a z i (1 - x) k y → ∀ m', post 1 m') : p_X5_isContent n m (nI i) (nI x) (nI k) (nI y) (nI z) post := by
  unfold p_X5_isContent
  refine sp_gain h g hi hk hx hy hz (fun m1 => ?_)
  rw [fl1 x hx]
  refine sp_gain h g hi hk (by omega) hy hz (fun m2 => ?_)
  exact ⟨fun w => q1 w m2, fun w => q2 w m2⟩
theorem shx : ∀ x, x ≤ 1 → ∀ i, i < 10 → nI x <<< (nI i &&& 31) = nI (if x = 1 then 2 ^ i else 0) := by decide +kernel
def bad2 (a : AP) (z i k q : Nat) : Prop := gnI a z i (q / 2) k (q % 2) < gnI a z i (1 - q / 2) k (q % 2) ∨ gnI a z k (q % 2) i (q / 2) < gnI a z k (1 - q % 2) i (q / 2)
def res2 (d : Nat) : Int32 := if d = 4 then -9 else nI (10 * (d / 2) + d % 2)
set_option maxHeartbeats 1000000 in
theorem two6 {c : PT} {ks : KS} {kp gn : F1} {a : AP} {th : Int32} {rf : F1} {i k z d : Nat} {post : Int32 → PT × Int32 × KS × F1 × F1 × F1 → Prop} (h : RP c a) (g : GP a) (hi : i < aN a) (hk : k < aN a) (ik : i ≠ k) (hz : z ≤ 30) (hd1 : d ≤ 4) (hd2 : ∀ q, q < d → bad2 a z i k q) (hd3 : d = 4 ∨ (d < 4 ∧ ¬ bad2 a z i k d)) (q : ∀ c' ks' kp' gn', RP c' a → post (res2 d) (c', 0, ks', rf, kp', gn')) : p_X6_two c th ks rf kp gn (nI i) (nI k) (nI z) post := by
  have h9 := g.1
  unfold p_X6_two
  refine sp_isH_t h g hi (br_f (by decide) (sp_isH_t h g hk (br_f (by decide) (br_f (fun e => ik (nI_inj (by omega) (by omega) e)) (sp_wn_ok (lo := 0) (hi := 30) (Nat.zero_le _) hz (by omega) (br_t (by decide) (sp_think6 h (fun c' ks' kp' hc hkk => ?_))))))))
  refine lpN_up 4 (fun j (x, k1, k2, k3, k4, k5, k6, k7, k8, k9, k0, _, _, _, kk, gv) => x = nI j ∧ RP (k1, k2, k3, k4, k5, k6, k7, k8, k9, k0) a ∧ RK kk a ∧ ∀ p, p < j → gv (2 * p) = gnI a z i (p / 2) k (p % 2) ∧ gv (2 * p + 1) = gnI a z k (p % 2) i (p / 2)) (by decide) ?_ ?_ _ ⟨rfl, hc, hkk, fun p hp => absurd hp (Nat.not_lt_zero _)⟩
  · rintro K j ⟨x, k1, k2, k3, k4, k5, k6, k7, k8, k9, k0, l1, l2, l3, kk, gv⟩ hj ⟨w1, w2, w3, w4⟩ hK
    subst w1
    have d2 : nI j / 2 = nI (j / 2) := div2 (by omega)
    have m2 : nI j - nI j / 2 * 2 = nI (j % 2) := by
      rw [d2, show (2 : Int32) = nI 2 from rfl, nI_mulN, nI_subN (by omega)]
      congr 1; omega
    have gs : GP (setS a (chS a i (j / 2) k (j % 2))) := g.setS (chS_lt g hi hk)
    refine bLe 4 j rfl rfl (by omega) (by omega) (fun w => absurd w (by omega)) (fun _ => nm_in (fun st est => ?_))
    have e' : st = nI (chS a i (j / 2) k (j % 2)) := by
      refine est.trans ?_
      show k6 ||| (((nI j / 2) <<< (nI i &&& 31)) ||| ((nI j - nI j / 2 * 2) <<< (nI k &&& 31))) = _
      rw [m2, d2, show k6 = nI (aS a) from w2.2.2.1, shx _ (by omega) i (by omega), shx _ (by omega) k (by omega), fa_or, fa_or, ← Nat.or_assoc]
      rfl
    refine sp_goHours (w2.setS e') gs (by omega) (fun t' ht' => ?_)
    have t2 : (2 : Int32) * nI j = nI (2 * j) := nI_mulN 2 j
    have v1 : vp_in ((2 : Int32) * nI j) 8 := by rw [t2]; exact vp_in_nI (by omega) (by decide)
    have t3 : (2 : Int32) * nI j + 1 = nI (2 * j + 1) := by rw [t2]; exact nI_1 _
    have v2 : vp_in ((2 : Int32) * nI j + 1) 8 := by rw [t3]; exact vp_in_nI (by omega) (by decide)
    refine ⟨vin9 (by omega), v1, nm_in (fun g1 e1 => ⟨vin9 (by omega), v2, nm_in (fun g2 e2 => sp_again6 w3 (fun t3' ks3 ht3 => hK _ ⟨nI_1 j, ht3, w3, fun p hp => ?_⟩))⟩)⟩
    have f1 : g1 = upd gv (2 * j) (gnI a z i (j / 2) k (j % 2)) := by
      refine e1.trans ?_
      show upd gv ((2 : Int32) * nI j).toNatClampNeg (t'.2.2.1 (nI i).toNatClampNeg - (3 : Int32) * (nI j / 2)) = _
      rw [t2, cl_nI (by omega), d2, ht'.h (by omega)]
      rfl
    have f2 : g2 = upd g1 (2 * j + 1) (gnI a z k (j % 2) i (j / 2)) := by
      refine e2.trans ?_
      show upd g1 ((2 : Int32) * nI j + 1).toNatClampNeg (t'.2.2.1 (nI k).toNatClampNeg - (3 : Int32) * (nI j - nI j / 2 * 2)) = _
      rw [t3, cl_nI (by omega), m2, ht'.h (by omega)]
      unfold gnI
      rw [chS_comm a k (j % 2) i (j / 2)]
      rfl
    rw [f2, f1]
    by_cases w : p = j
    · subst w
      rw [pk_us, pk_un (by omega), pk_us]
      exact ⟨rfl, rfl⟩
    · rw [pk_un (by omega), pk_un (by omega), pk_un (by omega), pk_un (by omega)]
      exact w4 p (by omega)
  · rintro K ⟨x, k1, k2, k3, k4, k5, k6, k7, k8, k9, k0, l1, l2, l3, kk, gv⟩ ⟨w1, w2, w3, w4⟩
    subst w1
    refine bLe 4 4 rfl rfl (by omega) (by omega) (fun _ => ?_) (fun w => absurd w (by omega))
    have body : ∀ (K : Int32 → Prop) (p : Nat), p < 4 → (bad2 a z i k p → K (nI p + 1)) → (¬ bad2 a z i k p → post (nI (10 * (p / 2) + p % 2)) ((k1, k2, k3, k4, k5, k6, k7, k8, k9, k0), 0, (l1, l2, l3), rf, kk, gv)) → nm (((2 : Int32) * ((1 : Int32) - nI p / 2)) + (nI p - nI p / 2 * 2)) (fun (v38 : Int32) => nm ((((2 : Int32) * (nI p / 2)) + 1) - (nI p - nI p / 2 * 2)) (fun (v39 : Int32) => (vp_in ((2 : Int32) * nI p) 8 ∧ (vp_in ((2 : Int32) * v38) 8 ∧ ((gv ((2 : Int32) * nI p).toNatClampNeg < gv ((2 : Int32) * v38).toNatClampNeg → K (nI p + 1)) ∧ (¬ gv ((2 : Int32) * nI p).toNatClampNeg < gv ((2 : Int32) * v38).toNatClampNeg → (vp_in (((2 : Int32) * nI p) + 1) 8 ∧ (vp_in (((2 : Int32) * v39) + 1) 8 ∧ ((gv (((2 : Int32) * nI p) + 1).toNatClampNeg < gv (((2 : Int32) * v39) + 1).toNatClampNeg → K (nI p + 1)) ∧ (¬ gv (((2 : Int32) * nI p) + 1).toNatClampNeg < gv (((2 : Int32) * v39) + 1).toNatClampNeg → post (((10 : Int32) * (nI p / 2)) + (nI p - nI p / 2 * 2)) ((k1, k2, k3, k4, k5, k6, k7, k8, k9, k0), 0, (l1, l2, l3), rf, kk, gv))))))))))) := by
      intro K p hp kb kg
      have d2 : nI p / 2 = nI (p / 2) := div2 (by omega)
      have m2 : nI p - nI p / 2 * 2 = nI (p % 2) := by
        rw [d2, show (2 : Int32) = nI 2 from rfl, nI_mulN, nI_subN (by omega)]
        congr 1; omega
      have t2 : ∀ j, (2 : Int32) * nI j = nI (2 * j) := fun j => nI_mulN 2 j
      have t3 : ∀ j, (2 : Int32) * nI j + 1 = nI (2 * j + 1) := fun j => by rw [t2]; exact nI_1 _
      refine nm_in (fun v38 e38 => nm_in (fun v39 e39 => ?_))
      have x38 : v38 = nI (2 * (1 - p / 2) + p % 2) := by
        rw [e38, m2, d2, fl1 _ (by omega), t2, nI_add]
      have x39 : v39 = nI (2 * (p / 2) + 1 - p % 2) := by
        rw [e39, m2, d2, t3, nI_subN (by omega)]
      have x10 : ((10 : Int32) * (nI p / 2)) + (nI p - nI p / 2 * 2) = nI (10 * (p / 2) + p % 2) := by
        rw [m2, d2, show (10 : Int32) = nI 10 from rfl, nI_mulN, nI_add]
      rw [x10, x38, x39, t3, t3, t2, t2, cl_nI (by omega), cl_nI (by omega), cl_nI (by omega), cl_nI (by omega)]
      have a1 := (w4 p hp).1
      have a2 := (w4 p hp).2
      have b1 := (w4 (2 * (1 - p / 2) + p % 2) (by omega)).1
      have b2 := (w4 (2 * (p / 2) + 1 - p % 2) (by omega)).2
      rw [show (2 * (1 - p / 2) + p % 2) / 2 = 1 - p / 2 by omega, show (2 * (1 - p / 2) + p % 2) % 2 = p % 2 by omega] at b1
      rw [show (2 * (p / 2) + 1 - p % 2) / 2 = p / 2 by omega, show (2 * (p / 2) + 1 - p % 2) % 2 = 1 - p % 2 by omega] at b2
      rw [a1, a2, b1, b2]
      refine ⟨vp_in_nI (by omega) (by decide), vp_in_nI (by omega) (by decide), fun w => kb (Or.inl w), fun w => ⟨vp_in_nI (by omega) (by decide), vp_in_nI (by omega) (by decide), fun w2 => kb (Or.inr w2), fun w2 => kg (fun e => e.elim w w2)⟩⟩
    refine lpN_up d (fun j z => z = nI j) (by omega) ?_ ?_ _ rfl
    · rintro K2 p x hp rfl hK2
      exact bLe 4 p rfl rfl (by omega) (by omega) (fun w => absurd w (by omega)) (fun _ => body K2 p (by omega) (fun _ => hK2 _ (nI_1 p)) (fun w => absurd (hd2 p hp) w))
    · rintro K2 x rfl
      have qq := q (k1, k2, k3, k4, k5, k6, k7, k8, k9, k0) (l1, l2, l3) kk gv w2
      unfold res2 at qq
      rcases hd3 with hd3 | ⟨hd3, hd4⟩
      · rw [if_pos hd3] at qq
        exact bLe 4 d rfl rfl (by omega) (by omega) (fun _ => qq) (fun w => absurd w (by omega))
      · rw [if_neg (by omega)] at qq
        exact bLe 4 d rfl rfl (by omega) (by omega) (fun w => absurd w (by omega)) (fun _ => body K2 d hd3 (fun w => absurd w hd4) (fun _ => qq))
theorem okk_two : ok_two Inv := by
  rintro ⟨n, m, q, hh, P, le, nu, rf, pq⟩ ⟨c, th, le6, qz, ks, hi, td, ro, se, rf6, kp, ig, ts, tf, hd, gn⟩ p1 p2 p3 ⟨a, hS, hT, g, ho, hrf, hle, hro, him, hpa⟩
  dsimp only at hS hT hrf hle hro him hpa
  have h9 := g.1
  unfold p_X5_two
  rcases house_or a p1 with ⟨i, hii, rfl⟩ | hn
  case inr =>
    refine sp_there_f hS g hn (br_t rfl (sp_ref5 isR1 ?_))
    unfold p_X6_two
    refine sp_isH_f hT g hn (br_t rfl (br_f (by decide) (sp_ref6 isR1 ?_)))
    exact ⟨rfl, a, hS, hT, g, ho, hrf.s _, hle, hro, him, hpa⟩
  refine sp_there_t hS g hii (br_f (by decide) ?_)
  rcases house_or a p2 with ⟨k, hkk, rfl⟩ | hn
  case inr =>
    refine sp_there_f hS g hn (br_t rfl (sp_ref5 isR1 ?_))
    unfold p_X6_two
    refine sp_isH_t hT g hii (br_f (by decide) (sp_isH_f hT g hn (br_t rfl (br_f (by decide) (sp_ref6 isR1 ?_)))))
    exact ⟨rfl, a, hS, hT, g, ho, hrf.s _, hle, hro, him, hpa⟩
  refine sp_there_t hS g hkk (br_f (by decide) ?_)
  by_cases ik : i = k
  · subst ik
    refine br_t rfl (sp_ref5 isR1 ?_)
    unfold p_X6_two
    refine sp_isH_t hT g hii (br_f (by decide) (sp_isH_t hT g hkk (br_f (by decide) (br_t rfl (br_f (by decide) (sp_ref6 isR1 ?_))))))
    exact ⟨rfl, a, hS, hT, g, ho, hrf.s _, hle, hro, him, hpa⟩
  have ine : ¬ nI i = nI k := fun e => ik (nI_inj (by omega) (by omega) e)
  refine br_f ine ?_
  rcases out3 p3 0 30 (by omega) (by omega) with ⟨z, hz1, hz, rfl⟩ | h | ⟨h1, h2⟩
  · obtain ⟨d, hd1, hd2, hd3⟩ := first_or (bad2 a z i k) 4
    have fin : ∀ (m' : PT) (r : Int32), r = res2 d → p_X6_two c th ks rf6 kp gn (nI i) (nI k) (nI z) (fun (r2 : Int32) (u2 : PT × Int32 × KS × F1 × F1 × F1) => r = r2 ∧ Inv (n, m', q, hh, P, le, nu, rf, pq) (u2.1, u2.2.1, le6, qz, u2.2.2.1, hi, td, ro, se, u2.2.2.2.1, u2.2.2.2.2.1, ig, ts, tf, hd, u2.2.2.2.2.2)) := fun m' r hr => two6 hT g hii hkk ik hz hd1 hd2 hd3 (fun c' ks' kp' gn' hc => ⟨hr, a, hS, hc, g, ho, hrf, hle, hro, him, hpa⟩)
    refine sp_out_ok (lo := 0) (hi := 30) hz1 hz (by omega) (br_t rfl ?_)
    have one : ∀ (x y : Nat) (mv : PT) (Kb : PT → Prop) (Kg : PT → Prop), x ≤ 1 → y ≤ 1 → (bad2 a z i k (2 * x + y) → ∀ m', Kb m') → (¬ bad2 a z i k (2 * x + y) → ∀ m', Kg m') → p_X5_isContent n mv (nI i) (nI x) (nI k) (nI y) (nI z) (fun (r13 : Int32) (u13 : PT) => ((r13 = 0 → Kb u13) ∧ (¬ r13 = 0 → p_X5_isContent n u13 (nI k) (nI y) (nI i) (nI x) (nI z) (fun (r15 : Int32) (u15 : PT) => ((r15 = 0 → Kb u15) ∧ (¬ r15 = 0 → Kg u15)))))) := by
      intro x y mv Kb Kg hx hy b1 b2
      unfold bad2 at b1 b2
      rw [show (2 * x + y) / 2 = x by omega, show (2 * x + y) % 2 = y by omega] at b1 b2
      refine sp_content hS g hii hkk hx hy hz (fun w m1 => br_t rfl (b1 (Or.inl w) m1)) (fun w m1 => br_f (by decide) ?_)
      exact sp_content hS g hkk hii hy hx hz (fun w2 m2 => br_t rfl (b1 (Or.inr w2) m2)) (fun w2 m2 => br_f (by decide) (b2 (fun e => e.elim w w2) m2))
    refine lpN_up (d / 2) (fun j z => z.1 = nI j) (by omega) ?_ ?_ _ rfl
    · rintro K x ⟨u, t⟩ hx e1 hK
      dsimp only at e1
      subst e1
      refine bLt 1 x rfl rfl (by omega) (by omega) (fun w => absurd w (by omega)) (fun _ => ?_)
      refine lpN_up 2 (fun j z => z.1 = nI j) (by omega) ?_ ?_ _ rfl
      · rintro K2 y ⟨u, t⟩ hy e1 hK2
        dsimp only at e1
        subst e1
        exact bLt 1 y rfl rfl (by omega) (by omega) (fun w => absurd w (by omega)) (fun _ => one x y t (fun m' => K2 (nI y + 1, m')) _ (by omega) (by omega) (fun _ m' => hK2 _ (nI_1 y)) (fun w => absurd (hd2 _ (by omega)) w))
      · rintro K2 ⟨u, t⟩ e1
        dsimp only at e1
        subst e1
        exact bLt 1 2 rfl rfl (by omega) (by omega) (fun _ => hK _ (nI_1 x)) (fun w => absurd w (by omega))
    · rintro K ⟨u, t⟩ e1
      dsimp only at e1
      subst e1
      rcases hd3 with rfl | ⟨hd3, hd4⟩
      · exact bLt 1 2 rfl rfl (by omega) (by omega) (fun _ => fin t _ rfl) (fun w => absurd w (by omega))
      · refine bLt 1 (d / 2) rfl rfl (by omega) (by omega) (fun w => absurd w (by omega)) (fun _ => ?_)
        refine lpN_up (d % 2) (fun j z => z.1 = nI j) (by omega) ?_ ?_ _ rfl
        · rintro K2 y ⟨u, t⟩ hy e1 hK2
          dsimp only at e1
          subst e1
          exact bLt 1 y rfl rfl (by omega) (by omega) (fun w => absurd w (by omega)) (fun _ => one (d / 2) y t (fun m' => K2 (nI y + 1, m')) _ (by omega) (by omega) (fun _ m' => hK2 _ (nI_1 y)) (fun w => absurd (hd2 _ (by omega)) w))
        · rintro K2 ⟨u, t⟩ e1
          dsimp only at e1
          subst e1
          refine bLt 1 (d % 2) rfl rfl (by omega) (by omega) (fun w => absurd w (by omega)) (fun _ => one (d / 2) (d % 2) t (fun m' => K2 (nI (d % 2) + 1, m')) _ (by omega) (by omega) (fun w => absurd w (by rw [show 2 * (d / 2) + d % 2 = d by omega]; exact hd4)) (fun _ m' => fin m' _ ?_))
          show (10 : Int32) * nI (d / 2) + nI (d % 2) = _
          unfold res2
          rw [if_neg (by omega), show (10 : Int32) = nI 10 from rfl, nI_mulN, nI_add]
  · refine sp_out_lo h (br_f (by decide) (sp_ref5 isR4 ?_))
    unfold p_X6_two
    refine sp_isH_t hT g hii (br_f (by decide) (sp_isH_t hT g hkk (br_f (by decide) (br_f ine (sp_wn_lo h (br_f (by decide) (sp_ref6 isR4 ?_)))))))
    exact ⟨rfl, a, hS, hT, g, ho, hrf.s _, hle, hro, him, hpa⟩
  · refine sp_out_hi h1 h2 (br_f (by decide) (sp_ref5 isR6 ?_))
    unfold p_X6_two
    refine sp_isH_t hT g hii (br_f (by decide) (sp_isH_t hT g hkk (br_f (by decide) (br_f ine (sp_wn_hi h1 h2 (br_f (by decide) (sp_ref6 isR6 ?_)))))))
    exact ⟨rfl, a, hS, hT, g, ho, hrf.s _, hle, hro, him, hpa⟩
