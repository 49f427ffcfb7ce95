/-! bits counted -/
def pop (x : Nat) : Nat := bt2 x 0 + bt2 x 1 + bt2 x 2 + bt2 x 3 + bt2 x 4 + bt2 x 5 + bt2 x 6 + bt2 x 7 + bt2 x 8
theorem pop_le (x : Nat) : pop x ≤ 9 := by
  have h := fun i => bt2_lt x i
  have h0 := h 0
  have h1 := h 1
  have h2 := h 2
  have h3 := h 3
  have h4 := h 4
  have h5 := h 5
  have h6 := h 6
  have h7 := h 7
  have h8 := h 8
  unfold pop
  omega
def bcI (p1 : Int32) : Int32 :=
  let v1 : Int32 := (p1 - (((p1.toUInt32 >>> ((1 : Int32).toUInt32 &&& Int32.toUInt32 31)).toInt32) &&& (1431655765 : Int32)))
  let v2 : Int32 := ((v1 &&& (858993459 : Int32)) + (((v1.toUInt32 >>> ((2 : Int32).toUInt32 &&& Int32.toUInt32 31)).toInt32) &&& (858993459 : Int32)))
  let v3 : Int32 := ((v2 + ((v2.toUInt32 >>> ((4 : Int32).toUInt32 &&& Int32.toUInt32 31)).toInt32)) &&& (252645135 : Int32))
  let v4 : Int32 := (v3 + ((v3.toUInt32 >>> ((8 : Int32).toUInt32 &&& Int32.toUInt32 31)).toInt32))
  let v5 : Int32 := (v4 + ((v4.toUInt32 >>> ((16 : Int32).toUInt32 &&& Int32.toUInt32 31)).toInt32))
  v5 &&& (63 : Int32)
set_option maxRecDepth 100000 in
theorem bc9 : ∀ x, x < 512 → bcI (nI x) = nI (pop x) := by decide +kernel
theorem sp_bc {x : Nat} {post : Int32 → Prop} (h : x < 512) (k : post (nI (pop x))) : p_J6_bitCount_0f7a4 (nI x) post := by
  unfold p_J6_bitCount_0f7a4
  refine nm_in (fun v1 d1 => nm_in (fun v2 d2 => nm_in (fun v3 d3 => nm_in (fun v4 d4 => nm_in (fun v5 d5 => ?_)))))
  subst d1; subst d2; subst d3; subst d4; subst d5
  rw [← bc9 x h] at k
  exact k
set_option maxRecDepth 100000 in
theorem pop0 : ∀ x, x < 512 → (pop x = 0 ↔ x = 0) := by decide +kernel
set_option maxRecDepth 100000 in
theorem pop1 : ∀ x, x < 511 → pop (x + 1) = pop ((x + 1) &&& x) + 1 := by decide +kernel
theorem sp_ones {x : Nat} {post : Int32 → Prop} (h : x < 512) (k : post (nI (pop x))) : p_X6_onesOf (nI x) post := by
  have hp := pop_le x
  unfold p_X6_onesOf
  refine lpN_up (pop x) (fun j z => z.1 = nI j ∧ ∃ y, y < 512 ∧ z.2 = nI y ∧ pop y + j = pop x) (by omega) ?_ ?_ _ ⟨rfl, x, h, rfl, rfl⟩
  · rintro K j ⟨u, v⟩ hj ⟨e1, y, hy, e2, e3⟩ hK
    dsimp only at e1 e2
    subst e1; subst e2
    have y0 : y ≠ 0 := fun e => by
      have := (pop0 y hy).mpr e
      omega
    obtain ⟨w, rfl⟩ : ∃ w, y = w + 1 := ⟨y - 1, by omega⟩
    refine br_f (nI_ne0 (by omega) (by omega)) (nm_in (fun v ev => hK _ ⟨nI_1 j, (w + 1) &&& w, Nat.lt_of_le_of_lt Nat.and_le_right (by omega), ?_, ?_⟩))
    · refine ev.trans ?_
      show nI (w + 1) &&& (nI (w + 1) - 1) = _
      rw [show nI (w + 1) - 1 = nI w from nI_subN (a := w + 1) (b := 1) (by omega), fa_and]
    · have := pop1 w (by omega)
      omega
  · rintro K ⟨u, v⟩ ⟨e1, y, hy, e2, e3⟩
    dsimp only at e1 e2
    subst e1; subst e2
    have y0 : y = 0 := (pop0 y hy).mp (by omega)
    subst y0
    exact br_t rfl k
/-! ways -/
def wayS (a : AP) (s : Nat × Nat) : Nat × Nat := if s.2 < aN a then (s.1 ||| 2 ^ s.2, aX a s.2) else s
def wayA (a : AP) (i j : Nat) : Nat × Nat := itr (wayS a) (0, i) j
theorem way_inv {a : AP} (g : GP a) {i : Nat} (hi : i < aN a) : ∀ j, (wayA a i j).1 < 2 ^ aN a ∧ (wayA a i j).2 ≤ 9 ∧ (i + j ≤ (wayA a i j).2 ∨ aN a ≤ (wayA a i j).2)
  | 0 => ⟨Nat.pow_pos (by decide), by have := g.1; show i ≤ 9; omega, Or.inl (Nat.le_refl _)⟩
  | j + 1 => by
    obtain ⟨h1, h2, h3⟩ := way_inv g hi j
    have h9 := g.1
    have e : wayA a i (j + 1) = wayS a (wayA a i j) := rfl
    rw [e]
    unfold wayS
    by_cases w : (wayA a i j).2 < aN a
    · rw [if_pos w]
      have hx := g.2.2.1 _ w
      refine ⟨or_lt h1 w, (g.2.1 _ (by omega)).2.2.2, ?_⟩
      show i + (j + 1) ≤ aX a (wayA a i j).2 ∨ _
      omega
    · rw [if_neg w]
      exact ⟨h1, h2, Or.inr (by omega)⟩
theorem way_stay {a : AP} {i j : Nat} (h : aN a ≤ (wayA a i j).2) : ∀ d, wayA a i (j + d) = wayA a i j
  | 0 => rfl
  | d + 1 => by
    show wayS a (wayA a i (j + d)) = _
    rw [way_stay h d]
    exact if_neg (by omega)
theorem way_end {a : AP} (g : GP a) {i : Nat} (hi : i < aN a) : ∃ d, d ≤ 9 ∧ (∀ j, j < d → (wayA a i j).2 < aN a) ∧ aN a ≤ (wayA a i d).2 := by
  obtain ⟨d, h1, h2, h3⟩ := first_or (fun j => (wayA a i j).2 < aN a) 9
  refine ⟨d, h1, h2, ?_⟩
  have h9 := g.1
  rcases h3 with e | ⟨-, e⟩
  · have := (way_inv g hi d).2.2
    omega
  · omega
def wayB (a : AP) (i : Nat) : Nat := (wayA a i 9).1
theorem wayB_lt {a : AP} (g : GP a) {i : Nat} (hi : i < aN a) : wayB a i < 512 := Nat.lt_of_lt_of_le (way_inv g hi 9).1 (Nat.pow_le_pow_right (n := 2) (by decide) g.1)
theorem sp_way5 {t : PT} {a : AP} {i : Nat} {post : Int32 → Prop} (h : RP t a) (g : GP a) (hi : i < aN a) (k : post (nI (wayB a i))) : p_X3_wayBits t (nI i) post := by
  have h9 := g.1
  obtain ⟨d, d1, d2, d3⟩ := way_end g hi
  have eb : wayB a i = (wayA a i d).1 := by
    unfold wayB
    have := way_stay d3 (9 - d)
    rw [show d + (9 - d) = 9 by omega] at this
    rw [this]
  unfold p_X3_wayBits
  refine lpN_up d (fun j z => z.1 = nI (wayA a i j).1 ∧ z.2.1 = nI (wayA a i j).2 ∧ z.2.2 = nI j) (by omega) ?_ ?_ _ ⟨rfl, rfl, rfl⟩
  · rintro K j ⟨x, y, z⟩ hj ⟨e1, e2, e3⟩ hK
    dsimp only at e1 e2 e3
    subst e1; subst e2; subst e3
    have q := d2 j hj
    have e : wayA a i (j + 1) = ((wayA a i j).1 ||| 2 ^ (wayA a i j).2, aX a (wayA a i j).2) := if_pos q
    refine bLe 9 j rfl rfl (by omega) (by omega) (fun w => absurd w (by omega)) (fun _ => sp_there_t h g q (br_f (by decide) (nm_in (fun v ev => ⟨vin9 (by omega), nm_in (fun u eu => hK _ ⟨?_, ?_, nI_1 j⟩)⟩))))
    · rw [e]
      refine ev.trans ?_
      show nI (wayA a i j).1 ||| ((1 : Int32) <<< (nI (wayA a i j).2 &&& 31)) = _
      rw [shl9 _ (by omega), fa_or]
    · rw [e]
      exact eu.trans (h.x (by omega))
  · rintro K ⟨x, y, z⟩ ⟨e1, e2, e3⟩
    dsimp only at e1 e2 e3
    subst e1; subst e2; subst e3
    rw [eb] at k
    have := (way_inv g hi d).2.1
    exact bLe 9 d rfl rfl (by omega) (by omega) (fun _ => k) (fun _ => sp_there_n h g d3 (by omega) (br_t rfl k))
theorem sp_way6 {t : PT} {a : AP} {i : Nat} {post : Int32 → Prop} (h : RP t a) (g : GP a) (hi : i < aN a) (k : post (nI (wayB a i))) : p_X6_wayBits t (nI i) post := by
  have h9 := g.1
  obtain ⟨d, d1, d2, d3⟩ := way_end g hi
  have eb : wayB a i = (wayA a i d).1 := by
    unfold wayB
    have := way_stay d3 (9 - d)
    rw [show d + (9 - d) = 9 by omega] at this
    rw [this]
  unfold p_X6_wayBits
  refine lpN_up d (fun j z => z.1 = nI (wayA a i j).1 ∧ z.2 = nI (wayA a i j).2) (by omega) ?_ ?_ _ ⟨rfl, rfl⟩
  · rintro K j ⟨x, y⟩ hj ⟨e1, e2⟩ hK
    dsimp only at e1 e2
    subst e1; subst e2
    have q := d2 j hj
    have e : wayA a i (j + 1) = ((wayA a i j).1 ||| 2 ^ (wayA a i j).2, aX a (wayA a i j).2) := if_pos q
    refine bLe (aN a) (wayA a i j).2 h.2.1 rfl (by omega) (by omega) (fun w => absurd w (by omega)) (fun _ => nm_in (fun v ev => ⟨vin9 (by omega), nm_in (fun u eu => hK _ ⟨?_, ?_⟩)⟩))
    · rw [e]
      refine ev.trans ?_
      show nI (wayA a i j).1 ||| ((1 : Int32) <<< (nI (wayA a i j).2 &&& 31)) = _
      rw [shl9 _ (by omega), fa_or]
    · rw [e]
      exact eu.trans (h.x (by omega))
  · rintro K ⟨x, y⟩ ⟨e1, e2⟩
    dsimp only at e1 e2
    subst e1; subst e2
    rw [eb] at k
    have := (way_inv g hi d).2.1
    exact bLe (aN a) (wayA a i d).2 h.2.1 rfl (by omega) (by omega) (fun _ => k) (fun w => absurd w (by omega))
theorem okk_way : ok_way Inv := by
  rintro ⟨n, m, q, hh, P, le, nu, rf, pq⟩ ⟨c, th, le6, qz, ks, hi, td, ro, se, rf6, kp, ig, ts, tf, hd, gn⟩ p1 p2 ⟨a, hS, hT, g, ho, hrf, hle, hro, him, hpa⟩
  dsimp only at hS hT hrf hle hro him hpa
  have h9 := g.1
  unfold p_X5_way
  rcases house_or a p1 with ⟨h, hh2, rfl⟩ | hn
  case inr =>
    refine sp_there_f hS g hn (br_t rfl (sp_ref5 isR1 ?_))
    unfold p_X6_way
    refine sp_isH_f hT g hn (br_t rfl (sp_wb_no (by decide) (br_f (by decide) (sp_ref6 isR1 ?_))))
    exact ⟨rfl, a, hS, hT, g, ho, hrf.s _, hle, hro, him, hpa⟩
  have wl := wayB_lt g hh2
  refine sp_there_t hS g hh2 (br_f (by decide) (sp_way5 hS g hh2 ?_))
  rcases in_or p2 2 with ⟨u, hu, rfl⟩ | hu
  case inr =>
    refine br_f (hu 0 (by omega)) (br_f (hu 1 (by omega)) (br_f (hu 2 (by omega)) (sp_ref5 isR2 ?_)))
    unfold p_X6_way
    refine sp_isH_t hT g hh2 (br_f (by decide) (sp_wb_f (M := 2) (by omega) hu (br_f (by decide) (sp_ref6 isR2 ?_))))
    exact ⟨rfl, a, hS, hT, g, ho, hrf.s _, hle, hro, him, hpa⟩
  match u, hu with
  | 0, _ =>
    refine br_t rfl (sp_bc wl ?_)
    unfold p_X6_way
    refine sp_isH_t hT g hh2 (br_f (by decide) (sp_wb_t (k := 0) (M := 2) (by omega) (by omega) (br_t (by decide) (sp_way6 hT g hh2 (br_t rfl (sp_ones wl ?_))))))
    exact ⟨rfl, a, hS, hT, g, ho, hrf, hle, hro, him, hpa⟩
  | 1, _ =>
    have wl2 : wayB a h &&& aS a < 512 := Nat.lt_of_le_of_lt Nat.and_le_left wl
    refine br_f (by decide) (br_t rfl (sp_blkBits hS ?_))
    rw [fa_and]
    refine sp_bc wl2 ?_
    unfold p_X6_way
    refine sp_isH_t hT g hh2 (br_f (by decide) (sp_wb_t (k := 1) (M := 2) (by omega) (by omega) (br_t (by decide) (sp_way6 hT g hh2 (br_f (by decide) (br_t rfl ?_))))))
    have e := hT.2.2.1
    rw [e, fa_and]
    exact sp_ones wl2 ⟨rfl, a, hS, hT, g, ho, hrf, hle, hro, him, hpa⟩
  | 2, _ =>
    refine br_f (by decide) (br_f (by decide) (br_t rfl ?_))
    unfold p_X6_way
    refine sp_isH_t hT g hh2 (br_f (by decide) (sp_wb_t (k := 2) (M := 2) (by omega) (by omega) (br_t (by decide) (sp_way6 hT g hh2 (br_f (by decide) (br_f (by decide) ?_))))))
    exact ⟨rfl, a, hS, hT, g, ho, hrf, hle, hro, him, hpa⟩
