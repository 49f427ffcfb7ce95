/-! the class's parish, the reference's core: what their small methods answer -/
def stN (k : Nat) : Nat := if k = 2 then 1 else if k = 5 then 3 else 0
def wdN (k f h : Nat) : Nat := if k = 1 then h else if k = 2 then h / 2 else if k = 3 then min f h else if k = 4 then h - f else if k = 5 then h / 2 / 2 else (h + 1) / 2
theorem sp_stands {k : Nat} {post : Int32 → Prop} (hk : k < 6) (hp : post (nI (stN k))) : p_X0_stands (nI k) post := by
  unfold p_X0_stands
  match k, hk with
  | 0, _ => exact br_f (by decide) (br_f (by decide) hp)
  | 1, _ => exact br_f (by decide) (br_f (by decide) hp)
  | 2, _ => exact br_t (by decide) hp
  | 3, _ => exact br_f (by decide) (br_f (by decide) hp)
  | 4, _ => exact br_f (by decide) (br_f (by decide) hp)
  | 5, _ => exact br_f (by decide) (br_t (by decide) hp)
theorem sp_would {k f h : Nat} {post : Int32 → Prop} (hk : k < 6) (hf : f < 10) (hh : h < 100) (hp : post (nI (wdN k f h))) : p_X0_wouldLet (nI k) (nI f) (nI h) post := by
  unfold p_X0_wouldLet
  match k, hk with
  | 0, _ =>
    have e : (nI h + 1) / 2 = nI (wdN 0 f h) := by rw [nI_1, div2 (by omega)]; rfl
    rw [← e] at hp
    exact br_f (by decide) (br_f (by decide) (br_f (by decide) (br_f (by decide) (br_f (by decide) hp))))
  | 1, _ => exact br_t (by decide) hp
  | 2, _ =>
    have e : nI h / 2 = nI (wdN 2 f h) := div2 (by omega)
    rw [← e] at hp
    exact br_f (by decide) (br_t (by decide) hp)
  | 3, _ =>
    have e : wdN 3 f h = min f h := rfl
    rw [e] at hp
    refine br_f (by decide) (br_f (by decide) (br_t (by decide) (bLe h f rfl rfl (by omega) (by omega) (fun q => ?_) (fun q => ?_))))
    · rw [Nat.min_eq_right q] at hp; exact hp
    · rw [Nat.min_eq_left (by omega)] at hp; exact hp
  | 4, _ =>
    have e : wdN 4 f h = h - f := rfl
    rw [e] at hp
    refine br_f (by decide) (br_f (by decide) (br_f (by decide) (br_t (by decide) (bLe h f rfl rfl (by omega) (by omega) (fun q => ?_) (fun q => ?_)))))
    · rw [show h - f = 0 by omega] at hp; exact hp
    · rw [pk_sub (by omega)]; exact hp
  | 5, _ =>
    have e : nI h / 2 / 2 = nI (wdN 5 f h) := by rw [div2 (by omega), div2 (by omega)]; rfl
    rw [← e] at hp
    exact br_f (by decide) (br_f (by decide) (br_f (by decide) (br_f (by decide) (br_t (by decide) hp))))
theorem letN_is {k f h : Nat} (hk : k < 6) : letN k f h = min (h - stN k) (wdN k f h) := by
  match k, hk with
  | 0, _ => show (h + 1) / 2 = min (h - 0) ((h + 1) / 2); omega
  | 1, _ => show h = min (h - 0) h; omega
  | 2, _ => show min (h / 2) (h - 1) = min (h - 1) (h / 2); omega
  | 3, _ => show min f h = min (h - 0) (min f h); omega
  | 4, _ => show h - f = min (h - 0) (h - f); omega
  | 5, _ => show min (h / 4) (h - 3) = min (h - 3) (h / 2 / 2); omega
theorem stN_le (k : Nat) : stN k ≤ 3 := by unfold stN; (repeat' split) <;> omega
theorem wdN_le (k f h : Nat) : wdN k f h ≤ h := by unfold wdN; (repeat' split) <;> omega
theorem sp_lets0 {k f h : Nat} {post : Int32 → Prop} (hk : k < 6) (hf : f < 10) (hh : h < 100) (hp : post (nI (letN k f h))) : p_X0_letsThrough (nI k) (nI f) (nI h) post := by
  unfold p_X0_letsThrough
  have hs := stN_le k
  have hw := wdN_le k f h
  have key : ∀ J : Int32 → Prop, J (nI (h - stN k)) → ((nI h ≤ nI (stN k) → J 0) ∧ (¬ nI h ≤ nI (stN k) → p_X0_stands (nI k) (fun r5 => J (nI h - r5)))) := by
    intro J hJ
    refine bLe h (stN k) rfl rfl (by omega) (by omega) (fun q => ?_) (fun q => ?_)
    · rw [show h - stN k = 0 by omega] at hJ; exact hJ
    · refine sp_stands hk ?_
      show J (nI h - nI (stN k))
      rw [pk_sub (by omega)]; exact hJ
  refine sp_stands hk ?_
  refine key _ ?_
  refine sp_would hk hf hh ?_
  rw [letN_is hk] at hp
  refine bLe (h - stN k) (wdN k f h) rfl rfl (by omega) (by omega) (fun q => ?_) (fun q => ?_)
  · rw [Nat.min_eq_left q] at hp; exact hp
  · rw [Nat.min_eq_right (by omega)] at hp; exact hp
theorem sp_adds {k f : Nat} {post : Int32 → Prop} (hk : k < 6) (hf : f < 10) (hp : post (nI (addN k f))) : p_X0_adds (nI k) (nI f) post := by
  unfold p_X0_adds
  match k, hk with
  | 0, _ => exact br_f (by decide) (br_f (by decide) (br_f (by decide) (br_f (by decide) (br_f (by decide) hp))))
  | 1, _ => exact br_t (by decide) hp
  | 2, _ => exact br_f (by decide) (br_t (by decide) hp)
  | 3, _ => exact br_f (by decide) (br_f (by decide) (br_t (by decide) hp))
  | 4, _ =>
    have e : nI f / 2 = nI (addN 4 f) := div2 (by omega)
    rw [← e] at hp
    exact br_f (by decide) (br_f (by decide) (br_f (by decide) (br_t (by decide) hp)))
  | 5, _ =>
    have e : (3 : Int32) + nI f = nI (addN 5 f) := by show nI 3 + nI f = nI (f + 3); rw [nI_add, Nat.add_comm]
    rw [← e] at hp
    exact br_f (by decide) (br_f (by decide) (br_f (by decide) (br_f (by decide) (br_t (by decide) hp))))
theorem sp_there_t {t : PT} {a : AP} {i : Nat} {post : Int32 → Prop} (h : RP t a) (g : GP a) (hi : i < aN a) (k : post 1) : p_X3_there t (nI i) post := by
  have h9 := g.1
  unfold p_X3_there
  refine br_f (nI_pos (by omega)) ?_
  exact bLe (aN a) i h.2.1 rfl (by omega) (by omega) (fun q => absurd q (by omega)) (fun _ => k)
theorem sp_there_f {t : PT} {a : AP} {p1 : Int32} {post : Int32 → Prop} (h : RP t a) (g : GP a) (hi : ∀ i, i < aN a → p1 ≠ nI i) (k : post 0) : p_X3_there t p1 post := by
  have h9 := g.1
  unfold p_X3_there
  refine br_c (fun _ => k) (fun q => ?_)
  obtain ⟨j, hj, rfl⟩ := nI_of q
  exact bLe (aN a) j h.2.1 rfl (by omega) hj (fun _ => k) (fun q => absurd rfl (hi j q))
theorem nI_inj {i j : Nat} (hi : i < 2 ^ 31) (hj : j < 2 ^ 31) (h : nI i = nI j) : i = j := (nI_eq hi hj).mp h
theorem sp_there_n {t : PT} {a : AP} {i : Nat} {post : Int32 → Prop} (h : RP t a) (g : GP a) (hi : aN a ≤ i) (hi2 : i < 2 ^ 31) (k : post 0) : p_X3_there t (nI i) post := by
  refine sp_there_f h g (fun j hj e => ?_) k
  have := nI_inj hi2 (by have := g.1; omega) e
  omega
theorem house_or (a : AP) (p1 : Int32) : (∃ i, i < aN a ∧ p1 = nI i) ∨ (∀ i, i < aN a → p1 ≠ nI i) := by
  by_cases h : ∃ i, i < aN a ∧ p1 = nI i
  · exact Or.inl h
  · exact Or.inr (fun i hi e => h ⟨i, hi, e⟩)
theorem lg_cmp_lt0 (x y : Int64) : (lg_cmp x y < 0) ↔ x.toInt < y.toInt := by
  rw [← Int32.not_le, lg_cmp_ge, Int64.le_iff_toInt_le]; omega
theorem lg_cmp_gt0 (x y : Int64) : (0 < lg_cmp x y) ↔ y.toInt < x.toInt := by
  unfold lg_cmp
  simp only [gt_iff_lt, Int64.lt_iff_toInt_lt, ← Int64.toInt_inj]
  repeat' split
  · constructor
    · intro _; assumption
    · intro _; decide
  · constructor
    · intro h; exact absurd h (by decide)
    · intro h; omega
  · constructor
    · intro h; exact absurd h (by decide)
    · intro h; omega
theorem sp_in_t {x y z : Int64} {post : Int32 → Prop} (h1 : y.toInt ≤ x.toInt) (h2 : x.toInt ≤ z.toInt) (k : post 1) : p_X6_in x y z post := by
  unfold p_X6_in
  rw [lg_cmp_lt0, lg_cmp_gt0]
  exact br_f (by omega) (br_f (by omega) k)
theorem sp_in_f {x y z : Int64} {post : Int32 → Prop} (h : x.toInt < y.toInt ∨ z.toInt < x.toInt) (k : post 0) : p_X6_in x y z post := by
  unfold p_X6_in
  rw [lg_cmp_lt0, lg_cmp_gt0]
  by_cases q : x.toInt < y.toInt
  · exact br_t q k
  · exact br_f q (br_t (by omega) k)
theorem bz_0 : bz 0 := ⟨rfl, rfl⟩
theorem bz_1 : bz 1 := ⟨rfl, rfl⟩
theorem bu1 {n : Nat} (hn : n ≤ 9) : ((nI n - 1).toInt64).toInt = (n : Int) - 1 := by
  have h : ∀ n, n < 10 → ((nI n - 1).toInt64).toInt = (n : Int) - 1 := by decide +kernel
  exact h n (by omega)
theorem sp_isH_t {t : PT} {a : AP} {i : Nat} {post : Int32 → Prop} (h : RP t a) (g : GP a) (hi : i < aN a) (k : post 1) : p_X6_isHouse t (nI i) post := by
  have h9 := g.1
  unfold p_X6_isHouse
  have e := h.2.1
  refine sp_in_t ?_ ?_ ⟨bz_1, k⟩
  · rw [Int32.toInt_toInt64, nI_toInt (by omega)]
    show (0 : Int) ≤ _
    omega
  · rw [Int32.toInt_toInt64, nI_toInt (by omega), e, bu1 h9]
    omega
theorem sp_isH_f {t : PT} {a : AP} {p1 : Int32} {post : Int32 → Prop} (h : RP t a) (g : GP a) (hi : ∀ i, i < aN a → p1 ≠ nI i) (k : post 0) : p_X6_isHouse t p1 post := by
  have h9 := g.1
  unfold p_X6_isHouse
  have e := h.2.1
  refine sp_in_f ?_ ⟨bz_0, k⟩
  rw [Int32.toInt_toInt64, e, bu1 h9]
  by_cases q : p1 < 0
  · left
    rw [Int32.lt_iff_toInt_lt] at q
    exact q
  · obtain ⟨j, hj, rfl⟩ := nI_of q
    right
    rw [nI_toInt hj]
    rcases Nat.lt_or_ge j (aN a) with z | z
    · exact absurd rfl (hi j z)
    · omega
