/-! a parish told in letters: the text -/
def dbN (x : Nat) : Nat := if x = 98 then 1 else if x = 99 then 0 else if x = 100 then 2 else if x = 110 then 2 else if x = 118 then 3 else if x = 120 then 2 else 0
def isLt (x : Nat) : Prop := x = 98 ∨ x = 99 ∨ x = 100 ∨ x = 110 ∨ x = 118 ∨ x = 120
def isDg (x : Nat) : Prop := 48 ≤ x ∧ x ≤ 57
def stp (f : Nat → Nat) (j : Nat) : Nat := pre (fun _ s => s + 2 + dbN (f s)) 0 j
theorem stp_s (f : Nat → Nat) (j : Nat) : stp f (j + 1) = stp f j + 2 + dbN (f (stp f j)) := rfl
theorem stp_ge (f : Nat → Nat) : ∀ j, 2 * j ≤ stp f j
  | 0 => Nat.le_refl _
  | j + 1 => by have := stp_ge f j; have := stp_s f j; omega
theorem stp_add (f : Nat → Nat) (i : Nat) : ∀ d, stp f i + 2 * d ≤ stp f (i + d)
  | 0 => Nat.le_refl _
  | d + 1 => by have := stp_add f i d; have e := stp_s f (i + d); have : stp f (i + (d + 1)) = stp f (i + d + 1) := rfl; omega
theorem stp_lt (f : Nat → Nat) {i j : Nat} (h : i < j) : stp f i + 2 ≤ stp f j := by
  have := stp_add f i (j - i)
  rw [show i + (j - i) = j by omega] at this
  omega
def okE (f : Nat → Nat) (k s e : Nat) : Prop := s + e < k ∧ ((e = 0 → isLt (f s)) ∧ (0 < e → e ≤ dbN (f s) → isDg (f (s + e))) ∧ (dbN (f s) < e → f (s + e) = 59))
def GD (f : Nat → Nat) (k s : Nat) : Prop := ∀ e, e ≤ dbN (f s) + 1 → okE f k s e
def GDs (f : Nat → Nat) (k m : Nat) : Prop := ∀ j, j < m → GD f k (stp f j)
def Cln (f : Nat → Nat) (k m : Nat) : Prop := 1 ≤ m ∧ GDs f k m ∧ stp f m = k
def Flt (f : Nat → Nat) (k m e : Nat) : Prop := GDs f k m ∧ (m = 0 ∨ stp f m < k) ∧ e ≤ dbN (f (stp f m)) + 1 ∧ (∀ e', e' < e → okE f k (stp f m) e') ∧ ¬ okE f k (stp f m) e
theorem dbN_le (x : Nat) : dbN x ≤ 3 := by unfold dbN; (repeat' split) <;> omega
def RLe (f : Nat → Nat) (k : Nat) (t : LT) : Prop := t.2 = nI k ∧ ∀ i, i < k → t.1 i = nI (f i) ∧ f i < 256
theorem vin96 {i : Nat} (h : i < 96) : vp_in (nI i) 96 := vp_in_nI h (by decide)
theorem RLe.at {f : Nat → Nat} {k : Nat} {t : LT} (h : RLe f k t) {i : Nat} (hk : k ≤ 96) (hi : i < k) : t.1 (nI i).toNatClampNeg = nI (f i) := by
  rw [cl_nI (by omega)]; exact (h.2 i hi).1
theorem sp_at {f : Nat → Nat} {k : Nat} {t : LT} {i : Nat} {post : Int32 → Prop} (h : RLe f k t) (hk : k ≤ 96) (hi : i < k) (q : post (nI (f i))) : p_X1_at t (nI i) post := by
  unfold p_X1_at
  refine br_f (Int32.not_lt.mpr (nI_pos' (by omega))) (bLe k i h.1 rfl (by omega) (by omega) (fun w => absurd w (by omega)) (fun _ => ⟨vin96 (by omega), ?_⟩))
  rw [← h.at hk hi] at q
  exact q
theorem sp_atN {f : Nat → Nat} {k : Nat} {t : LT} {i : Nat} {post : Int32 → Prop} (h : RLe f k t) (hk : k ≤ 96) (hi : k ≤ i) (hi2 : i < 200) (q : post (-1)) : p_X1_at t (nI i) post := by
  unfold p_X1_at
  exact br_f (Int32.not_lt.mpr (nI_pos' (by omega))) (bLe k i h.1 rfl (by omega) (by omega) (fun _ => q) (fun w => absurd w (by omega)))
theorem sp_dg_t {x : Nat} {post : Int32 → Prop} (h : isDg x) (q : post 1) : p_X1_isDigit (nI x) post := by
  obtain ⟨h1, h2⟩ := h
  unfold p_X1_isDigit
  exact bLt x 48 rfl rfl (by omega) (by omega) (fun w => absurd w (by omega)) (fun _ => bLt 57 x rfl rfl (by omega) (by omega) (fun w => absurd w (by omega)) (fun _ => q))
theorem sp_dg_f {x : Nat} {post : Int32 → Prop} (hx : x < 256) (h : ¬ isDg x) (q : post 0) : p_X1_isDigit (nI x) post := by
  unfold p_X1_isDigit
  refine bLt x 48 rfl rfl (by omega) (by omega) (fun _ => q) (fun w => bLt 57 x rfl rfl (by omega) (by omega) (fun _ => q) (fun w2 => absurd ⟨w, w2⟩ h))
theorem sp_digIs {f : Nat → Nat} {k : Nat} {t : LT} {i : Nat} {post : Int32 → Prop} (h : RLe f k t) (hk : k ≤ 96) (hi : i < k) (d : isDg (f i)) (q : post (nI (f i - 48))) : p_X1_digitAt t (nI i) post := by
  unfold p_X1_digitAt
  refine sp_at h hk hi (sp_dg_t d (br_f (by decide) ?_))
  rw [show nI (f i) - (48 : Int32) = nI (f i - 48) from nI_subN d.1]
  exact q
theorem sp_digAny {f : Nat → Nat} {k : Nat} {t : LT} {i : Nat} {post : Int32 → Prop} (h : RLe f k t) (hk : k ≤ 96) (hi : i < 200) (q : ∀ v, post v) : p_X1_digitAt t (nI i) post := by
  unfold p_X1_digitAt
  rcases Nat.lt_or_ge i k with w | w
  · refine sp_at h hk w ?_
    by_cases d : isDg (f i)
    · exact sp_dg_t d (br_f (by decide) (q _))
    · exact sp_dg_f (h.2 i w).2 d (br_t rfl (q _))
  · refine sp_atN h hk w hi ?_
    unfold p_X1_isDigit
    exact br_t (by decide) (br_t rfl (q _))
theorem sp_db {x : Nat} {post : Int32 → Prop} (hx : x < 256) (q1 : isLt x → post (nI (dbN x))) (q2 : ¬ isLt x → post (-1)) : p_X1_digitsBehind (nI x) post := by
  unfold p_X1_digitsBehind
  refine bEq x 98 rfl rfl (by omega) (by omega) (fun w => ?_) (fun w1 => ?_)
  · subst w; exact q1 (Or.inl rfl)
  refine bEq x 99 rfl rfl (by omega) (by omega) (fun w => ?_) (fun w2 => ?_)
  · subst w; exact q1 (Or.inr (Or.inl rfl))
  refine bEq x 100 rfl rfl (by omega) (by omega) (fun w => ?_) (fun w3 => ?_)
  · subst w; exact q1 (Or.inr (Or.inr (Or.inl rfl)))
  refine bEq x 110 rfl rfl (by omega) (by omega) (fun w => ?_) (fun w4 => ?_)
  · subst w; exact q1 (Or.inr (Or.inr (Or.inr (Or.inl rfl))))
  refine bEq x 118 rfl rfl (by omega) (by omega) (fun w => ?_) (fun w5 => ?_)
  · subst w; exact q1 (Or.inr (Or.inr (Or.inr (Or.inr (Or.inl rfl)))))
  refine bEq x 120 rfl rfl (by omega) (by omega) (fun w => ?_) (fun w6 => ?_)
  · subst w; exact q1 (Or.inr (Or.inr (Or.inr (Or.inr (Or.inr rfl)))))
  exact q2 (by unfold isLt; omega)
theorem nI_dec (b : Nat) : nI (b + 1) + (-1) = nI b := by
  rw [← nI_1 b, Int32.add_assoc]
  exact Int32.add_zero _
theorem nI_ne_m1 {b : Nat} (h : b < 1000) : ¬ nI b = (-1 : Int32) := by
  intro w
  have := congrArg Int32.toInt w
  rw [nI_toInt (by omega)] at this
  have e : (-1 : Int32).toInt = -1 := rfl
  omega
/-- what the scan has seen before the i-th letter -/
def FF (f : Nat → Nat) (k i : Nat) (x : Int32) : Prop := ∃ m e, i = stp f m + e ∧ GDs f k m ∧ (∀ e', e' < e → okE f k (stp f m) e') ∧ e ≤ dbN (f (stp f m)) + 1 ∧ x = (if e = 0 then -1 else nI (dbN (f (stp f m)) + 1 - e))
theorem sp_ff {f : Nat → Nat} {k : Nat} {t : LT} {post : Int32 → Prop} (h : RLe f k t) (hk : k ≤ 96) (q1 : ∀ m e, Flt f k m e → post (nI (stp f m + e))) (q2 : ∀ m, Cln f k m → post (-1)) : p_X1_firstFault t post := by
  unfold p_X1_firstFault
  refine lpN_up k (fun i z => z.2 = nI i ∧ FF f k i z.1) (by omega) ?_ ?_ _ ⟨rfl, 0, 0, rfl, fun j hj => absurd hj (by omega), fun e he => absurd he (by omega), by omega, rfl⟩
  · rintro K i ⟨x1, x2⟩ hi ⟨e2, m, e, em, hm, he, hed, ex⟩ hK
    dsimp only at e2 ex
    subst e2
    have hfi := (h.2 i hi).2
    have hd3 := dbN_le (f (stp f m))
    refine bLe k i h.1 rfl (by omega) (by omega) (fun w => absurd w (by omega)) (fun _ => ⟨vin96 (by omega), nm_in (fun v ev => ?_)⟩)
    have ea := h.at hk hi
    rw [ea] at ev
    subst ev
    have flt : ¬ okE f k (stp f m) e → post (nI i) := fun w => by
      have := q1 m e ⟨hm, Or.inr (by omega), hed, he, w⟩
      rw [← em] at this
      exact this
    by_cases e0 : e = 0
    · subst e0
      rw [if_pos rfl] at ex
      subst ex
      have em' : i = stp f m := em
      refine br_t rfl (sp_db hfi (fun w => ?_) (fun w => ?_))
      · refine br_t (nI_pos' (by have := dbN_le (f i); omega)) (hK _ ⟨nI_1 i, m, 1, by omega, hm, fun e' h' => ?_, by omega, ?_⟩)
        · rw [show e' = 0 by omega]
          exact ⟨by omega, fun _ => em' ▸ w, fun z => absurd z (by omega), fun z => absurd z (by omega)⟩
        · rw [if_neg (by decide), em']; rfl
      · refine br_f (by decide) (flt ?_)
        rintro ⟨-, z, -⟩
        exact w (em' ▸ z rfl)
    · rw [if_neg e0] at ex
      subst ex
      refine br_f (nI_ne_m1 (by omega)) (bLe (dbN (f (stp f m)) + 1 - e) 0 rfl rfl (by omega) (by omega) (fun w => ?_) (fun w => ?_))
      · have ee : e = dbN (f (stp f m)) + 1 := by omega
        refine bEq (f i) 59 rfl rfl (by omega) (by omega) (fun w2 => ?_) (fun w2 => ?_)
        · refine hK _ ⟨nI_1 i, m + 1, 0, ?_, ?_, fun e' h' => absurd h' (by omega), by omega, rfl⟩
          · rw [stp_s]; omega
          · intro j hj
            rcases (show j < m ∨ j = m by omega) with z | z
            · exact hm j z
            · subst z
              intro e' he'
              rcases (show e' < e ∨ e' = e by omega) with z | z
              · exact he e' z
              · subst z
                exact ⟨by omega, fun z => absurd z e0, fun _ z => absurd z (by omega), fun _ => by rw [← em]; exact w2⟩
        · refine flt ?_
          rintro ⟨-, -, -, z⟩
          exact w2 (by rw [em]; exact z (by omega))
      · by_cases d : isDg (f i)
        · refine sp_dg_t d (br_f (by decide) (hK _ ⟨nI_1 i, m, e + 1, by omega, hm, fun e' h' => ?_, by omega, ?_⟩))
          · rcases (show e' < e ∨ e' = e by omega) with z | z
            · exact he e' z
            · subst z
              exact ⟨by omega, fun z => absurd z e0, fun _ _ => by rw [← em]; exact d, fun z => absurd z (by omega)⟩
          · rw [if_neg (by omega), show dbN (f (stp f m)) + 1 - e = (dbN (f (stp f m)) + 1 - (e + 1)) + 1 by omega]
            exact nI_dec _
        · refine sp_dg_f hfi d (br_t rfl (flt ?_))
          rintro ⟨-, -, z, -⟩
          exact d (by rw [em]; exact z (by omega) (by omega))
  · rintro K ⟨x1, x2⟩ ⟨e2, m, e, em, hm, he, hed, ex⟩
    dsimp only at e2 ex
    subst e2
    have hd3 := dbN_le (f (stp f m))
    refine bLe k k h.1 rfl (by omega) (by omega) (fun _ => ?_) (fun w => absurd w (by omega))
    have no : ¬ okE f k (stp f m) e := fun z => by have := z.1; omega
    have e1 : t.2 = nI (stp f m + e) := by rw [← em]; exact h.1
    refine bLe k 0 h.1 rfl (by omega) (by omega) (fun w => ?_) (fun w => ?_)
    · have := stp_ge f m
      show post t.2
      rw [e1]
      exact q1 m e ⟨hm, Or.inl (by omega), hed, he, no⟩
    · by_cases e0 : e = 0
      · subst e0
        rw [if_pos rfl] at ex
        refine br_t ex (q2 m ⟨?_, hm, em.symm⟩)
        rcases (show m = 0 ∨ 1 ≤ m by omega) with z | z
        · subst z; have : stp f 0 = 0 := rfl; omega
        · exact z
      · rw [if_neg e0] at ex
        refine br_f (by rw [ex]; exact nI_ne_m1 (by omega)) ?_
        show post t.2
        rw [e1]
        exact q1 m e ⟨hm, Or.inr (he 0 (by omega)).1, hed, he, no⟩
