/-! parts of a whole -/
def nL (n : Nat) : Int64 := Int64.ofNat n
theorem nL_toInt {n : Nat} (h : n < 2 ^ 63) : (nL n).toInt = n := lg_ofNat_toInt h
theorem nL_add (a b : Nat) : nL a + nL b = nL (a + b) := (Int64.ofNat_add a b).symm
theorem nL_mul (a b : Nat) : nL a * nL b = nL (a * b) := (Int64.ofNat_mul a b).symm
theorem nL_sub {a b : Nat} (h : b ≤ a) : nL a - nL b = nL (a - b) := by
  have e : nL a = nL (a - b) + nL b := by rw [nL_add]; congr 1; omega
  rw [e]
  exact Int64.add_sub_cancel _ _
theorem nL_div {a d : Nat} (ha : a < 2 ^ 63) (h0 : 0 < d) (hd : d < 2 ^ 63) : nL a / nL d = nL (a / d) := by
  apply Int64.toInt_inj.mp
  rw [lg_ldiv_nonneg (by rw [nL_toInt ha]; omega) (by rw [nL_toInt hd]; omega), nL_toInt ha, nL_toInt hd, nL_toInt (Nat.lt_of_le_of_lt (Nat.div_le_self a d) ha)]
  rfl
theorem nI_L {n : Nat} (h : n < 2 ^ 31) : (nI n).toInt64 = nL n := by
  apply Int64.toInt_inj.mp
  rw [Int32.toInt_toInt64, nI_toInt h, nL_toInt (by omega)]
theorem nL_ne0 {n : Nat} (h0 : 0 < n) (h : n < 2 ^ 63) : ¬ nL n = 0 := by
  intro e
  have := congrArg Int64.toInt e
  rw [nL_toInt h] at this
  have z : (0 : Int64).toInt = 0 := rfl
  omega
theorem nL_mod {a d : Nat} (ha : a < 2 ^ 63) (h0 : 0 < d) (hd : d < 2 ^ 63) : nL a - nL a / nL d * nL d = nL (a % d) := by
  rw [nL_div ha h0 hd, nL_mul, nL_sub (Nat.div_mul_le_self a d)]
  congr 1
  have h1 := Nat.div_add_mod a d
  have h2 := Nat.mul_comm d (a / d)
  omega
theorem lc0_t {post : Prop} {other : Prop} {n : Nat} (h : n = 0) (k : post) : (lg_cmp (nL n) (0 : Int64) = 0 → post) ∧ (¬ lg_cmp (nL n) (0 : Int64) = 0 → other) := by
  subst h
  exact br_t ((lg_cmp_eq _ _).mpr rfl) k
theorem lc0_f {post : Prop} {other : Prop} {n : Nat} (h : 0 < n) (h2 : n < 2 ^ 63) (k : other) : (lg_cmp (nL n) (0 : Int64) = 0 → post) ∧ (¬ lg_cmp (nL n) (0 : Int64) = 0 → other) :=
  br_f (fun e => nL_ne0 h h2 ((lg_cmp_eq _ _).mp e)) k
def euS (s : Nat × Nat) : Nat × Nat := if s.2 = 0 then s else (s.2, s.1 % s.2)
def euA (a b j : Nat) : Nat × Nat := itr euS (a, b) j
theorem eu_s {a b j : Nat} (h : (euA a b j).2 ≠ 0) : euA a b (j + 1) = ((euA a b j).2, (euA a b j).1 % (euA a b j).2) := if_neg h
theorem eu_bd {a b B : Nat} (ha : 0 < a) (hA : a < B) (hB : b < B) : ∀ j, 0 < (euA a b j).1 ∧ (euA a b j).1 < B ∧ (euA a b j).2 < B
  | 0 => ⟨ha, hA, hB⟩
  | j + 1 => by
    obtain ⟨h1, h2, h3⟩ := eu_bd ha hA hB j
    by_cases w : (euA a b j).2 = 0
    · rw [show euA a b (j + 1) = euA a b j from if_pos w]
      exact ⟨h1, h2, h3⟩
    · rw [eu_s w]
      have := Nat.mod_lt (euA a b j).1 (Nat.pos_of_ne_zero w)
      exact ⟨Nat.pos_of_ne_zero w, h3, by show (euA a b j).1 % (euA a b j).2 < B; omega⟩
/-- after the first step the first is no less than the second, and their product halves -/
theorem eu_half {a b : Nat} : ∀ j, (euA a b (j + 1)).2 ≠ 0 → (euA a b (j + 1)).2 < (euA a b (j + 1)).1 := by
  intro j h
  by_cases w : (euA a b j).2 = 0
  · rw [show euA a b (j + 1) = euA a b j from if_pos w] at h
    exact absurd w h
  · rw [eu_s w]
    exact Nat.mod_lt _ (Nat.pos_of_ne_zero w)
theorem mod_half {x y : Nat} (hy : 0 < y) (h : y ≤ x) : 2 * (x % y) ≤ x := by
  have h1 := Nat.div_add_mod x y
  have h2 := Nat.mod_lt x hy
  have h3 : 1 ≤ x / y := (Nat.le_div_iff_mul_le hy).mpr (by omega)
  have h4 : y * 1 ≤ y * (x / y) := Nat.mul_le_mul_left y h3
  omega
theorem eu_prod {a b k : Nat} (ha : a < 2 ^ 31) (hb : b < 2 ^ 31) (h0 : 0 < a) : ∀ j, j ≤ 62 → (euA a b (j + 1)).2 ≠ 0 → (euA a b (j + 1)).1 * (euA a b (j + 1)).2 * 2 ^ j < 2 ^ 62
  | 0, _, _ => by
    obtain ⟨-, h2, h3⟩ := eu_bd h0 ha hb 1
    have q := Nat.mul_lt_mul'' h2 h3
    show (euA a b 1).1 * (euA a b 1).2 * 2 ^ 0 < 2 ^ 62
    rw [Nat.pow_zero, Nat.mul_one]
    exact Nat.lt_of_lt_of_le q (by decide)
  | j + 1, hj, h => by
    have w : (euA a b (j + 1)).2 ≠ 0 := by
      intro w
      rw [show euA a b (j + 1 + 1) = euA a b (j + 1) from if_pos w] at h
      exact h w
    have ih := eu_prod (k := k) ha hb h0 j (by omega) w
    have hf := eu_half (a := a) (b := b) j w
    have hm := mod_half (Nat.pos_of_ne_zero w) (Nat.le_of_lt hf)
    rw [eu_s w]
    show (euA a b (j + 1)).2 * ((euA a b (j + 1)).1 % (euA a b (j + 1)).2) * 2 ^ (j + 1) < 2 ^ 62
    have e : (euA a b (j + 1)).2 * ((euA a b (j + 1)).1 % (euA a b (j + 1)).2) * 2 ^ (j + 1) = (2 * ((euA a b (j + 1)).1 % (euA a b (j + 1)).2)) * (euA a b (j + 1)).2 * 2 ^ j := by
      rw [Nat.pow_succ]
      simp only [Nat.mul_comm, Nat.mul_left_comm, Nat.mul_assoc]
    rw [e]
    exact Nat.lt_of_le_of_lt (Nat.mul_le_mul_right _ (Nat.mul_le_mul_right _ hm)) ih
theorem eu_end {a b : Nat} (ha : a < 2 ^ 31) (hb : b < 2 ^ 31) (h0 : 0 < a) : ∃ d, d ≤ 63 ∧ (∀ j, j < d → (euA a b j).2 ≠ 0) ∧ (euA a b d).2 = 0 := by
  obtain ⟨d, h1, h2, h3⟩ := first_or (fun j => (euA a b j).2 ≠ 0) 64
  rcases h3 with rfl | ⟨h3, h4⟩
  · exfalso
    have q := h2 63 (by omega)
    have p := eu_prod (k := 0) ha hb h0 62 (by omega) q
    obtain ⟨x1, -, -⟩ := eu_bd h0 ha hb 63
    have x2 := Nat.pos_of_ne_zero q
    have x3 : 1 * 1 ≤ (euA a b 63).1 * (euA a b 63).2 := Nat.mul_le_mul x1 x2
    have x4 := Nat.mul_le_mul_right (2 ^ 62) x3
    rw [Nat.mul_one, Nat.one_mul] at x4
    exact Nat.lt_irrefl _ (Nat.lt_of_le_of_lt x4 p)
  · exact ⟨d, by omega, h2, Decidable.not_not.mp h4⟩
theorem eu_stay {a b d : Nat} (h : (euA a b d).2 = 0) : ∀ k, euA a b (d + k) = euA a b d
  | 0 => rfl
  | k + 1 => by
    show euS (euA a b (d + k)) = _
    rw [eu_stay h k]
    exact if_pos h
def gcN (a b : Nat) : Nat := (euA a b 63).1
theorem sp_gcd5 {a b : Nat} {post : Int64 → Prop} (ha : a < 2 ^ 31) (hb : b < 2 ^ 31) (h0 : 0 < a) (k : post (nL (gcN a b))) : p_X5_commonDivisor (nL a) (nL b) post := by
  obtain ⟨d, d1, d2, d3⟩ := eu_end ha hb h0
  have es := eu_stay d3 (63 - d)
  rw [show d + (63 - d) = 63 by omega] at es
  unfold gcN at k
  rw [es] at k
  unfold p_X5_commonDivisor
  refine lpN_up d (fun j z => z.1 = nL (euA a b j).1 ∧ z.2.1 = nL (euA a b j).2 ∧ z.2.2 = nI j) (by omega) ?_ ?_ _ ⟨rfl, rfl, rfl⟩
  · rintro K j ⟨x, y, z⟩ hj ⟨e1, e2, e3⟩ hK
    dsimp only at e1 e2 e3
    subst e1; subst e2; subst e3
    have w := d2 j hj
    obtain ⟨q1, q2, q3⟩ := eu_bd h0 ha hb j
    refine bLe 128 j rfl rfl (by omega) (by omega) (fun w => absurd w (by omega)) (fun _ => lc0_f (Nat.pos_of_ne_zero w) (by omega) ⟨nL_ne0 (Nat.pos_of_ne_zero w) (by omega), nm_in (fun v ev => hK _ ⟨?_, ?_, nI_1 j⟩)⟩)
    · rw [eu_s w]
    · rw [eu_s w]
      exact ev.trans (nL_mod (by omega) (Nat.pos_of_ne_zero w) (by omega))
  · rintro K ⟨x, y, z⟩ ⟨e1, e2, e3⟩
    dsimp only at e1 e2 e3
    subst e1; subst e2; subst e3
    exact bLe 128 d rfl rfl (by omega) (by omega) (fun w => absurd w (by omega)) (fun _ => lc0_t d3 k)
theorem sp_gcd6 {a b : Nat} {post : Int64 → Prop} (ha : a < 2 ^ 31) (hb : b < 2 ^ 31) (h0 : 0 < a) (k : post (nL (gcN a b))) : p_X6_divisor (nL a) (nL b) post := by
  obtain ⟨d, d1, d2, d3⟩ := eu_end ha hb h0
  have es := eu_stay d3 (63 - d)
  rw [show d + (63 - d) = 63 by omega] at es
  unfold gcN at k
  rw [es] at k
  unfold p_X6_divisor
  refine lpN_up d (fun j z => z.1 = nL (euA a b j).1 ∧ z.2 = nL (euA a b j).2) (by omega) ?_ ?_ _ ⟨rfl, rfl⟩
  · rintro K j ⟨x, y⟩ hj ⟨e1, e2⟩ hK
    dsimp only at e1 e2
    subst e1; subst e2
    have w := d2 j hj
    obtain ⟨q1, q2, q3⟩ := eu_bd h0 ha hb j
    refine lc0_f (Nat.pos_of_ne_zero w) (by omega) ⟨nL_ne0 (Nat.pos_of_ne_zero w) (by omega), nm_in (fun v ev => hK _ ⟨?_, ?_⟩)⟩
    · rw [eu_s w]
    · rw [eu_s w]
      exact ev.trans (nL_mod (by omega) (Nat.pos_of_ne_zero w) (by omega))
  · rintro K ⟨x, y⟩ ⟨e1, e2⟩
    dsimp only at e1 e2
    subst e1; subst e2
    exact lc0_t d3 k
theorem gc_bd {a b : Nat} (ha : a < 2 ^ 31) (hb : b < 2 ^ 31) (h0 : 0 < a) : 0 < gcN a b ∧ gcN a b < 2 ^ 31 := ⟨(eu_bd h0 ha hb 63).1, (eu_bd h0 ha hb 63).2.1⟩
def prtN (x y u : Nat) : Nat := if x = 0 then u else (if u = 0 then x else y) / gcN x y
theorem cmp_pos {n : Nat} (h : 0 < n) (h2 : n < 2 ^ 63) : 0 < lg_cmp (nL n) (0 : Int64) := by
  rw [lg_cmp_gt0, nL_toInt h2]
  show (0 : Int) < n
  omega
theorem sp_part5 {x y u : Nat} {post : Int64 → Prop} (hx : x < 2 ^ 31) (hy : y < 2 ^ 31) (hu : u ≤ 1) (xy : 0 < x → 0 < y) (k : post (nL (prtN x y u))) : p_X5_partOf (nL x) (nL y) (nI u) post := by
  unfold p_X5_partOf
  unfold prtN at k
  rcases Nat.eq_zero_or_pos x with rfl | x0
  · rw [if_pos rfl] at k
    refine br_t (by rw [lg_cmp_le]; exact Int64.le_refl _) ?_
    rcases (show u = 0 ∨ u = 1 by omega) with rfl | rfl
    · exact br_t rfl k
    · exact br_f (by decide) k
  · rw [if_neg (by omega)] at k
    obtain ⟨g0, g1⟩ := gc_bd hx hy x0
    have tail : ∀ z : Nat, z < 2 ^ 31 → post (nL (z / gcN x y)) → ((lg_cmp (nL (gcN x y)) (1 : Int64) ≤ 0 → post (nL z)) ∧ (¬ lg_cmp (nL (gcN x y)) (1 : Int64) ≤ 0 → ((¬ nL (gcN x y) = 0) ∧ post (nL z / nL (gcN x y))))) := by
      intro z hz h
      refine ⟨fun w => ?_, fun _ => ⟨nL_ne0 g0 (by omega), ?_⟩⟩
      · rw [lg_cmp_le, Int64.le_iff_toInt_le, nL_toInt (by omega)] at w
        have e1 : (1 : Int64).toInt = 1 := rfl
        rw [e1] at w
        rw [show gcN x y = 1 by omega, Nat.div_one] at h
        exact h
      · rw [nL_div (by omega) g0 (by omega)]
        exact h
    refine br_f (fun e => ?_) (br_t (cmp_pos (xy x0) (by omega)) ?_)
    · have := cmp_pos x0 (n := x) (by omega)
      exact absurd this (Int32.not_lt.mpr e)
    · rcases (show u = 0 ∨ u = 1 by omega) with rfl | rfl
      · exact br_t rfl (sp_gcd5 hx hy x0 (tail x hx k))
      · exact br_f (by decide) (sp_gcd5 hx hy x0 (tail y hy k))
theorem sp_part6 {x y u : Nat} {post : Int64 → Prop} (hx : x < 2 ^ 31) (hy : y < 2 ^ 31) (hu : u ≤ 1) (k : post (nL (prtN x y u))) : p_X6_partOf (nL x) (nL y) (nI u) post := by
  unfold p_X6_partOf
  unfold prtN at k
  rcases Nat.eq_zero_or_pos x with rfl | x0
  · rw [if_pos rfl] at k
    refine lc0_t rfl ?_
    rw [nI_L (by omega)]
    exact k
  · rw [if_neg (by omega)] at k
    obtain ⟨g0, g1⟩ := gc_bd hx hy x0
    refine lc0_f x0 (by omega) (sp_gcd6 hx hy x0 ?_)
    rcases (show u = 0 ∨ u = 1 by omega) with rfl | rfl
    · refine br_t rfl ⟨nL_ne0 g0 (by omega), ?_⟩
      rw [nL_div (by omega) g0 (by omega)]
      exact k
    · refine br_f (by decide) ⟨nL_ne0 g0 (by omega), ?_⟩
      rw [nL_div (by omega) g0 (by omega)]
      exact k
theorem sum_pos {f : Nat → Nat} : ∀ n, 0 < sumN f n → 0 < n
  | 0, h => absurd h (Nat.lt_irrefl _)
  | n + 1, _ => Nat.succ_pos n
theorem okk_mean : ok_mean Inv := by
  rintro ⟨n, m, q, hh, P, le, nu, rf, pq⟩ ⟨c, th, le6, qz, ks, hi, td, ro, se, rf6, kp, ig, ts, tf, hd, gn⟩ p1 ⟨a, hS, hT, g, ho, hrf, hle, hro, him, hpa⟩
  dsimp only at hS hT hrf hle hro him hpa
  have h9 := g.1
  have sl := sum_le (f := aH a) (B := 100) (fun i hi => (g.2.1 i hi).2.2.1) _ h9
  have sl2 : aN a * 100 ≤ 9 * 100 := Nat.mul_le_mul_right _ h9
  unfold p_X5_mean
  rcases in_or p1 1 with ⟨u, hu, rfl⟩ | hu
  case inr =>
    refine br_f (hu 0 (by omega)) (br_f (hu 1 (by omega)) (sp_refL5 isR2 ?_))
    unfold p_X6_mean
    refine sp_inN_f (Y := 0) (Z := 1) rfl rfl (fun k _ h => hu k h) (br_t rfl (sp_ref6 isR2 ?_))
    exact ⟨rfl, a, hS, hT, g, ho, hrf.s _, hle, hro, him, hpa⟩
  have go : ∀ (A B : Prop), A → (nI u = 0 → A) ∧ (¬ nI u = 0 → (nI u = (1 : Int32) → A) ∧ (¬ nI u = (1 : Int32) → B)) := by
    intro A B h
    match u, hu with
    | 0, _ => exact br_t rfl h
    | 1, _ => exact br_f (by decide) (br_t rfl h)
  refine go _ _ (sp_holdsAll hS g (sp_houses hS ?_))
  rw [nI_L (by omega), nI_L (by omega)]
  refine sp_part5 (by omega) (by omega) hu (sum_pos _) ?_
  unfold p_X6_mean
  refine sp_inN_t (Y := 0) (Z := 1) rfl rfl (by omega) hu (by omega) (br_f (by decide) (sp_allHold hT g ?_))
  have eb := hT.2.1
  rw [eb, nI_L (by omega), nI_L (by omega)]
  exact sp_part6 (by omega) (by omega) hu ⟨rfl, a, hS, hT, g, ho, hrf, hle, hro, him, hpa⟩
