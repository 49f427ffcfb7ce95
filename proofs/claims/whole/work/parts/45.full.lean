/-! the fullest, and what else that question asks -/
def mxf (a : AP) (j : Nat) : Nat := pre (fun i b => if aH a i ≤ aH a b then b else i) 0 j
theorem mxf_1 {a : AP} : mxf a 1 = 0 := if_pos (Nat.le_refl _)
theorem mxf_s {a : AP} {j : Nat} : mxf a (j + 1) = if aH a j ≤ aH a (mxf a j) then mxf a j else j := rfl
theorem mxf_lt {a : AP} : ∀ j, 0 < j → mxf a j < j
  | 0, h => absurd h (Nat.lt_irrefl _)
  | 1, _ => by rw [mxf_1]; omega
  | j + 2, _ => by
    have := mxf_lt (a := a) (j + 1) (by omega)
    rw [mxf_s]
    split <;> omega
def mxR (a : AP) : Int32 := if aN a = 0 then -9 else nI (mxf a (aN a))
theorem sp_most5 {t : PT} {a : AP} {post : Int32 → Prop} (h : RP t a) (g : GP a) (k : post (mxR a)) : p_X5_houseHoldingMost t post := by
  have h9 := g.1
  have hb : ∀ i, i < 9 → aH a i < 100 := fun i hi => (g.2.1 i hi).2.2.1
  unfold p_X5_houseHoldingMost
  refine lpN_up (aN a) (fun j z => ((j = 0 ∧ z.1 = -9 ∧ z.2.1 = -1) ∨ (0 < j ∧ z.1 = nI (mxf a j) ∧ z.2.1 = nI (aH a (mxf a j)))) ∧ z.2.2 = nI j) (by omega) ?_ ?_ _ ⟨Or.inl ⟨rfl, rfl, rfl⟩, rfl⟩
  · rintro K j ⟨x, y, i⟩ hj ⟨w1, w2⟩ hK
    dsimp only at w1 w2
    subst w2
    refine sp_houses h (bLe (aN a) j rfl rfl (by omega) (by omega) (fun w => absurd w (by omega)) (fun _ => sp_holdsOf h g hj ?_))
    rcases w1 with ⟨rfl, rfl, rfl⟩ | ⟨j0, rfl, rfl⟩
    · have nn : ¬ nI (aH a 0) ≤ (-1 : Int32) := fun e => absurd (Int32.lt_of_le_of_lt e (show (-1 : Int32) < 0 by decide)) (Int32.not_lt.mpr (nI_pos' (by have := hb 0 (by omega); omega)))
      exact br_f nn (sp_holdsOf h g hj (hK _ ⟨Or.inr ⟨by omega, by rw [mxf_1], by rw [mxf_1]⟩, nI_1 0⟩))
    · have m1 := mxf_lt (a := a) j j0
      have := hb j (by omega)
      have := hb (mxf a j) (by omega)
      refine bLe (aH a j) (aH a (mxf a j)) rfl rfl (by omega) (by omega) (fun w => hK _ ⟨Or.inr ⟨by omega, ?_, ?_⟩, nI_1 j⟩) (fun w => sp_holdsOf h g hj (hK _ ⟨Or.inr ⟨by omega, ?_, ?_⟩, nI_1 j⟩))
      · rw [mxf_s, if_pos w]
      · rw [mxf_s, if_pos w]
      · rw [mxf_s, if_neg (by omega)]
      · rw [mxf_s, if_neg (by omega)]
  · rintro K ⟨x, y, i⟩ ⟨w1, w2⟩
    dsimp only at w1 w2
    subst w2
    refine sp_houses h (bLe (aN a) (aN a) rfl rfl (by omega) (by omega) (fun _ => ?_) (fun w => absurd w (by omega)))
    unfold mxR at k
    rcases w1 with ⟨e, rfl, -⟩ | ⟨e, rfl, -⟩
    · rw [if_pos e] at k; exact k
    · rw [if_neg (by omega)] at k; exact k
theorem sp_most6 {t : PT} {a : AP} {post : Int32 → Prop} (h : RP t a) (g : GP a) (k : post (mxR a)) : p_X6_fullestOne t post := by
  have h9 := g.1
  have hb : ∀ i, i < 9 → aH a i < 100 := fun i hi => (g.2.1 i hi).2.2.1
  unfold p_X6_fullestOne
  refine lpN_up (aN a) (fun j z => ((j = 0 ∧ z.1 = -9) ∨ (0 < j ∧ z.1 = nI (mxf a j))) ∧ z.2 = nI j) (by omega) ?_ ?_ _ ⟨Or.inl ⟨rfl, rfl⟩, rfl⟩
  · rintro K j ⟨x, i⟩ hj ⟨w1, w2⟩ hK
    dsimp only at w1 w2
    subst w2
    refine bLe (aN a) j h.2.1 rfl (by omega) (by omega) (fun w => absurd w (by omega)) (fun _ => ?_)
    rcases w1 with ⟨rfl, rfl⟩ | ⟨j0, rfl⟩
    · exact br_t (show (-9 : Int32) < 0 by decide) (hK _ ⟨Or.inr ⟨by omega, by rw [mxf_1]⟩, nI_1 0⟩)
    · have m1 := mxf_lt (a := a) j j0
      have := hb j (by omega)
      have := hb (mxf a j) (by omega)
      refine br_f (Int32.not_lt.mpr (nI_pos' (by omega))) ⟨vin9 (by omega), vin9 (by omega), ?_⟩
      refine bLe (aH a j) (aH a (mxf a j)) (h.h (by omega)) (h.h (by omega)) (by omega) (by omega) (fun w => hK _ ⟨Or.inr ⟨by omega, ?_⟩, nI_1 j⟩) (fun w => hK _ ⟨Or.inr ⟨by omega, ?_⟩, nI_1 j⟩)
      · rw [mxf_s, if_pos w]
      · rw [mxf_s, if_neg (by omega)]
  · rintro K ⟨x, i⟩ ⟨w1, w2⟩
    dsimp only at w1 w2
    subst w2
    refine bLe (aN a) (aN a) h.2.1 rfl (by omega) (by omega) (fun _ => ?_) (fun w => absurd w (by omega))
    unfold mxR at k
    rcases w1 with ⟨e, rfl⟩ | ⟨e, rfl⟩
    · rw [if_pos e] at k; exact k
    · rw [if_neg (by omega)] at k; exact k
def cpS (a : AP) (i : Nat) (s : Int32) : Int32 := if aX a i < aN a then s else s ||| bitI i
theorem cp_t {a : AP} {j : Nat} {s : Int32} (h : s = pre (cpS a) 0 j) (w : aX a j < aN a) : s = pre (cpS a) 0 (j + 1) := by
  show _ = cpS a j (pre (cpS a) 0 j)
  rw [← h]
  exact (if_pos w).symm
theorem cp_f {a : AP} {j : Nat} {s : Int32} (h : s = pre (cpS a) 0 j) (w : ¬ aX a j < aN a) : s ||| bitI j = pre (cpS a) 0 (j + 1) := by
  show _ = cpS a j (pre (cpS a) 0 j)
  rw [← h]
  exact (if_neg w).symm
theorem sp_cupH5 {t : PT} {a : AP} {post : Int32 → Prop} (h : RP t a) (g : GP a) (k : post (pre (cpS a) 0 (aN a))) : p_X5_housesAtCup t post := by
  have h9 := g.1
  unfold p_X5_housesAtCup
  refine lpN_up (aN a) (fun j z => z.1 = pre (cpS a) 0 j ∧ z.2 = nI j) (by omega) ?_ ?_ _ ⟨rfl, rfl⟩
  · rintro K j ⟨x, i⟩ hj ⟨w1, w2⟩ hK
    dsimp only at w1 w2
    subst w2
    obtain ⟨-, -, -, gx⟩ := g.2.1 j (by omega)
    refine sp_houses h (bLe (aN a) j rfl rfl (by omega) (by omega) (fun w => absurd w (by omega)) (fun _ => sp_nextOf h g hj ?_))
    rcases Nat.lt_or_ge (aX a j) (aN a) with b | b
    · exact sp_there_t h g b (br_f (by decide) (hK _ ⟨cp_t w1 b, nI_1 j⟩))
    · exact sp_there_n h g b (by omega) (br_t rfl (nm_in (fun v ev => hK _ ⟨ev.trans (cp_f w1 (by omega)), nI_1 j⟩)))
  · rintro K ⟨x, i⟩ ⟨w1, w2⟩
    dsimp only at w1 w2
    subst w2; subst w1
    exact sp_houses h (bLe (aN a) (aN a) rfl rfl (by omega) (by omega) (fun _ => k) (fun w => absurd w (by omega)))
theorem sp_cupH6 {t : PT} {a : AP} {post : Int32 → Prop} (h : RP t a) (g : GP a) (k : post (pre (cpS a) 0 (aN a))) : p_X6_pumpBits t post := by
  have h9 := g.1
  unfold p_X6_pumpBits
  refine lpN_up (aN a) (fun j z => z.1 = pre (cpS a) 0 j ∧ z.2 = nI j) (by omega) ?_ ?_ _ ⟨rfl, rfl⟩
  · rintro K j ⟨x, i⟩ hj ⟨w1, w2⟩ hK
    dsimp only at w1 w2
    subst w2
    obtain ⟨-, -, -, gx⟩ := g.2.1 j (by omega)
    refine bLe (aN a) j h.2.1 rfl (by omega) (by omega) (fun w => absurd w (by omega)) (fun _ => ⟨vin9 (by omega), ?_⟩)
    refine bLt (aX a j) (aN a) (h.x (by omega)) h.2.1 (by omega) (by omega) (fun b => nm_in (fun v ev => hK _ ⟨(ev.trans (or0 x)).trans (cp_t w1 b), nI_1 j⟩)) (fun b => nm_in (fun v ev => hK _ ⟨ev.trans (cp_f w1 (by omega)), nI_1 j⟩))
  · rintro K ⟨x, i⟩ ⟨w1, w2⟩
    dsimp only at w1 w2
    subst w2; subst w1
    exact bLe (aN a) (aN a) h.2.1 rfl (by omega) (by omega) (fun _ => k) (fun w => absurd w (by omega))
def lwA (a : AP) (j : Nat) : Nat := pre (fun i s => if s < pop (wayB a i) then pop (wayB a i) else s) 0 j
theorem lw_s {a : AP} {j : Nat} : lwA a (j + 1) = if lwA a j < pop (wayB a j) then pop (wayB a j) else lwA a j := rfl
theorem lwA_le {a : AP} : ∀ j, lwA a j ≤ 9
  | 0 => Nat.zero_le _
  | j + 1 => by
    have := lwA_le (a := a) j
    have := pop_le (wayB a j)
    rw [lw_s]
    split <;> omega
theorem sp_long5 {t : PT} {a : AP} {post : Int32 → Prop} (h : RP t a) (g : GP a) (k : post (nI (lwA a (aN a)))) : p_X5_longestWay t post := by
  have h9 := g.1
  unfold p_X5_longestWay
  refine lpN_up (aN a) (fun j z => z.1 = nI (lwA a j) ∧ z.2 = nI j) (by omega) ?_ ?_ _ ⟨rfl, rfl⟩
  · rintro K j ⟨x, i⟩ hj ⟨w1, w2⟩ hK
    dsimp only at w1 w2
    subst w2; subst w1
    have p1 := lwA_le (a := a) j
    have p2 := pop_le (wayB a j)
    refine sp_houses h (bLe (aN a) j rfl rfl (by omega) (by omega) (fun w => absurd w (by omega)) (fun _ => sp_way5 h g hj (sp_bc (wayB_lt g hj) (nm_in (fun v ev => hK _ ⟨?_, nI_1 j⟩)))))
    refine ev.trans ?_
    rw [lw_s]
    by_cases w : lwA a j < pop (wayB a j)
    · rw [if_pos w]; exact if_pos (nI_lt w (by omega))
    · rw [if_neg w]; exact if_neg (nI_nlt (by omega) (by omega))
  · rintro K ⟨x, i⟩ ⟨w1, w2⟩
    dsimp only at w1 w2
    subst w2; subst w1
    exact sp_houses h (bLe (aN a) (aN a) rfl rfl (by omega) (by omega) (fun _ => k) (fun w => absurd w (by omega)))
theorem sp_long6 {t : PT} {a : AP} {post : Int32 → Prop} (h : RP t a) (g : GP a) (k : post (nI (lwA a (aN a)))) : p_X6_deepest t post := by
  have h9 := g.1
  unfold p_X6_deepest
  refine lpN_up (aN a) (fun j z => z.1 = nI (lwA a j) ∧ z.2 = nI j) (by omega) ?_ ?_ _ ⟨rfl, rfl⟩
  · rintro K j ⟨x, i⟩ hj ⟨w1, w2⟩ hK
    dsimp only at w1 w2
    subst w2; subst w1
    have p1 := lwA_le (a := a) j
    have p2 := pop_le (wayB a j)
    refine bLe (aN a) j h.2.1 rfl (by omega) (by omega) (fun w => absurd w (by omega)) (fun _ => sp_way6 h g hj (sp_ones (wayB_lt g hj) ?_))
    refine bLe (pop (wayB a j)) (lwA a j) rfl rfl (by omega) (by omega) (fun w => hK _ ⟨?_, nI_1 j⟩) (fun w => sp_way6 h g hj (sp_ones (wayB_lt g hj) (hK _ ⟨?_, nI_1 j⟩)))
    · rw [lw_s, if_neg (by omega)]
    · rw [lw_s, if_pos w]
  · rintro K ⟨x, i⟩ ⟨w1, w2⟩
    dsimp only at w1 w2
    subst w2; subst w1
    exact bLe (aN a) (aN a) h.2.1 rfl (by omega) (by omega) (fun _ => k) (fun w => absurd w (by omega))
