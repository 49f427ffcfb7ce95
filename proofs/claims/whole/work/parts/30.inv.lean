/-! what ties the class's object to the reference's -/
def IRf (f g : F1) : Prop := ∀ i, i < 7 → f i = g i
def IRow (M B : Nat) (x y : LT) : Prop := ∃ k, k ≤ M ∧ x.2 = nI k ∧ y.2 = nI k ∧ ∀ i, i < k → ∃ v, v < B ∧ x.1 i = nI v ∧ y.1 i = nI v
def IIm (q : PT) (pq hi : Int32) (ig : F1) : Prop := (pq = 0 ∧ hi = 0) ∨ (pq = 1 ∧ hi = 1 ∧ ∃ b, RP q b ∧ RK ig b ∧ GP b ∧ aO b ≤ 999)
def IPa (hh : HT) (P : Nat → PT) (td : Int32) (ts : F1) : Prop := ∃ k la, k ≤ 8 ∧ la < 8 ∧ hh.1 = nI la ∧ hh.2 = nI k ∧ td = nI k ∧ ∀ j, j < k → ∃ b, RP (P ((la + 8 - j) % 8)) b ∧ (∀ p, p < 41 → ts (41 * (k - 1 - j) + p) = nI (flat b p)) ∧ GP b ∧ aO b ≤ 999
def InvA (a : AP) (S : CS) (T : MS) : Prop := RP S.1 a ∧ RP T.1 a ∧ GP a ∧ aO a ≤ 999 ∧ IRf S.2.2.2.2.2.2.2.1 T.2.2.2.2.2.2.2.2.2.1 ∧ IRow 96 256 S.2.2.2.2.2.1 T.2.2.1 ∧ IRow 12 100 S.2.2.2.2.2.2.1 T.2.2.2.2.2.2.2.1 ∧ IIm S.2.2.1 S.2.2.2.2.2.2.2.2 T.2.2.2.2.2.1 T.2.2.2.2.2.2.2.2.2.2.2.1 ∧ IPa S.2.2.2.1 S.2.2.2.2.1 T.2.2.2.2.2.2.1 T.2.2.2.2.2.2.2.2.2.2.2.2.1
def Inv (S : CS) (T : MS) : Prop := ∃ a, InvA a S T
/-! refusals -/
def rfS (f : F1) (w : Int32) : F1 := upd f ((-w)).toNatClampNeg ((f ((-w)).toNatClampNeg) + 1)
theorem IRf.s {f g : F1} (h : IRf f g) (w : Int32) : IRf (rfS f w) (rfS g w) := by
  intro i hi
  unfold rfS
  by_cases e : i = (-w).toNatClampNeg
  · subst e; rw [pk_us, pk_us, h _ hi]
  · rw [pk_un e, pk_un e]; exact h i hi
def isRef (w : Int32) : Prop := w = -1 ∨ w = -2 ∨ w = -3 ∨ w = -4 ∨ w = -6
theorem isR1 : isRef (-1) := Or.inl rfl
theorem isR2 : isRef (-2) := Or.inr (Or.inl rfl)
theorem isR3 : isRef (-3) := Or.inr (Or.inr (Or.inl rfl))
theorem isR4 : isRef (-4) := Or.inr (Or.inr (Or.inr (Or.inl rfl)))
theorem isR6 : isRef (-6) := Or.inr (Or.inr (Or.inr (Or.inr rfl)))
theorem isRef.facts {w : Int32} (h : isRef w) : ¬ (0 : Int32) ≤ w ∧ ¬ w < -6 ∧ vp_in (-w) 7 ∧ ¬ w = 0 := by
  have d : ∀ z : Int32, (¬ z < 0 ∧ ¬ 7 ≤ z.toNatClampNeg) → vp_in z 7 := fun z hz q => q.elim hz.1 hz.2
  rcases h with rfl | rfl | rfl | rfl | rfl <;> exact ⟨by decide, by decide, d _ (by decide), by decide⟩
theorem sp_ref5 {w : Int32} {rf : F1} {post : Int32 → F1 → Prop} (h : isRef w) (k : post w (rfS rf w)) : p_X5_refuse rf w post := by
  obtain ⟨h1, h2, h3, -⟩ := h.facts
  unfold p_X5_refuse
  exact br_f h1 (br_f h2 ⟨h3, h3, nm_in (fun v e => by subst e; exact k)⟩)
theorem sp_ref6 {w : Int32} {rf : F1} {post : Int32 → F1 → Prop} (h : isRef w) (k : post w (rfS rf w)) : p_X6_refuse rf w post := by
  obtain ⟨-, -, h3, -⟩ := h.facts
  unfold p_X6_refuse
  exact ⟨h3, h3, nm_in (fun v e => by subst e; exact k)⟩
theorem sp_refL5 {w : Int32} {rf : F1} {post : Int64 → F1 → Prop} (h : isRef w) (k : post (4000000000000000000 - w.toInt64) (rfS rf w)) : p_X5_refuseLong rf w post := by
  unfold p_X5_refuseLong
  exact sp_ref5 h k
/-- a number within its bounds, below, above -/
theorem out3 (p : Int32) (lo hi : Nat) (h1 : lo < 2 ^ 31) (h2 : hi < 2 ^ 31) : (∃ k, lo ≤ k ∧ k ≤ hi ∧ p = nI k) ∨ (p < nI lo) ∨ (¬ p < nI lo ∧ nI hi < p) := by
  by_cases q : p < nI lo
  · exact Or.inr (Or.inl q)
  · have q0 : ¬ p < 0 := by
      intro z
      apply q
      rw [Int32.lt_iff_toInt_lt] at z ⊢
      rw [nI_toInt h1]
      have : (0 : Int32).toInt = 0 := rfl
      omega
    obtain ⟨k, hk, rfl⟩ := nI_of q0
    rw [nI_ltI hk h1] at q
    by_cases z : k ≤ hi
    · exact Or.inl ⟨k, by omega, z, rfl⟩
    · exact Or.inr (Or.inr ⟨by rw [nI_ltI hk h1]; exact q, nI_lt (by omega) hk⟩)
theorem sp_out_ok {k lo hi : Nat} {post : Int32 → Prop} (h1 : lo ≤ k) (h2 : k ≤ hi) (h3 : hi < 2 ^ 31) (q : post 0) : p_X5_outside (nI k) (nI lo) (nI hi) post := by
  unfold p_X5_outside
  exact br_t (nI_le h1 (by omega)) (br_t (nI_le h2 h3) q)
theorem sp_out_lo {p lo hi : Int32} {post : Int32 → Prop} (h : p < lo) (q : post (-4)) : p_X5_outside p lo hi post := by
  unfold p_X5_outside
  exact br_f (Int32.not_le.mpr h) q
theorem sp_out_hi {p lo hi : Int32} {post : Int32 → Prop} (h : ¬ p < lo) (h2 : hi < p) (q : post (-6)) : p_X5_outside p lo hi post := by
  unfold p_X5_outside
  exact br_t (Int32.not_lt.mp h) (br_f (Int32.not_le.mpr h2) q)
theorem sp_wn_ok {k lo hi : Nat} {post : Int32 → Prop} (h1 : lo ≤ k) (h2 : k ≤ hi) (h3 : hi < 2 ^ 31) (q : post 0) : p_X6_wrongNumber (nI k) (nI lo) (nI hi) post := by
  unfold p_X6_wrongNumber
  exact br_t (nI_le h1 (by omega)) (br_t (nI_le h2 h3) q)
theorem sp_wn_lo {p lo hi : Int32} {post : Int32 → Prop} (h : p < lo) (q : post (-4)) : p_X6_wrongNumber p lo hi post := by
  unfold p_X6_wrongNumber
  exact br_f (Int32.not_le.mpr h) q
theorem sp_wn_hi {p lo hi : Int32} {post : Int32 → Prop} (h : ¬ p < lo) (h2 : hi < p) (q : post (-6)) : p_X6_wrongNumber p lo hi post := by
  unfold p_X6_wrongNumber
  exact br_t (Int32.not_lt.mp h) (br_f (Int32.not_le.mpr h2) q)
theorem sp_wb_no {w p m : Int32} {post : Int32 → Prop} (h : ¬ w = 0) (q : post w) : p_X6_wrongBit w p m post := by
  unfold p_X6_wrongBit
  exact br_f h q
theorem sp_wb_t {k M : Nat} {post : Int32 → Prop} (h : k ≤ M) (hM : M < 2 ^ 31) (q : post 0) : p_X6_wrongBit 0 (nI k) (nI M) post := by
  unfold p_X6_wrongBit
  refine br_t rfl (sp_in_t ?_ ?_ (br_f (by decide) q))
  · rw [Int32.toInt_toInt64, nI_toInt (by omega)]; show (0 : Int) ≤ _; omega
  · rw [Int32.toInt_toInt64, Int32.toInt_toInt64, nI_toInt (by omega), nI_toInt hM]; omega
theorem sp_wb_f {p : Int32} {M : Nat} {post : Int32 → Prop} (hM : M < 2 ^ 31) (h : ∀ k, k ≤ M → p ≠ nI k) (q : post (-2)) : p_X6_wrongBit 0 p (nI M) post := by
  unfold p_X6_wrongBit
  refine br_t rfl (sp_in_f ?_ (br_t rfl q))
  rw [Int32.toInt_toInt64, Int32.toInt_toInt64, nI_toInt hM]
  by_cases z : p < 0
  · left; rw [Int32.lt_iff_toInt_lt] at z; exact z
  · obtain ⟨j, hj, rfl⟩ := nI_of z
    right
    rw [nI_toInt hj]
    rcases Nat.lt_or_ge M j with y | y
    · omega
    · exact absurd rfl (h j y)
theorem in_or (p : Int32) (M : Nat) : (∃ k, k ≤ M ∧ p = nI k) ∨ (∀ k, k ≤ M → p ≠ nI k) := by
  by_cases h : ∃ i, i ≤ M ∧ p = nI i
  · exact Or.inl h
  · exact Or.inr (fun i hi e => h ⟨i, hi, e⟩)
/-! what the class's parish answers -/
theorem sp_houses {t : PT} {a : AP} {post : Int32 → Prop} (h : RP t a) (k : post (nI (aN a))) : p_X3_houses t post := by
  unfold p_X3_houses
  have e := h.2.1
  rw [← e] at k
  exact k
theorem sp_hour {t : PT} {a : AP} {post : Int32 → Prop} (h : RP t a) (k : post (nI (aO a))) : p_X3_hour t post := by
  unfold p_X3_hour
  have e := h.2.2.2.2.2
  rw [← e] at k
  exact k
theorem sp_blkBits {t : PT} {a : AP} {post : Int32 → Prop} (h : RP t a) (k : post (nI (aS a))) : p_X3_blockedBits t post := by
  unfold p_X3_blockedBits
  have e := h.2.2.1
  rw [← e] at k
  exact k
theorem sp_wetBits {t : PT} {a : AP} {post : Int32 → Prop} (h : RP t a) (k : post (nI (aW a))) : p_X3_wetBits t post := by
  unfold p_X3_wetBits
  have e := h.2.2.2.1
  rw [← e] at k
  exact k
theorem sp_kindOf {t : PT} {a : AP} {i : Nat} {post : Int32 → Prop} (h : RP t a) (g : GP a) (hi : i < aN a) (k : post (nI (aK a i))) : p_X3_kindOf t (nI i) post := by
  have h9 := g.1
  unfold p_X3_kindOf
  refine sp_there_t h g hi (br_f (by decide) ⟨vin9 (by omega), ?_⟩)
  rw [← h.k (by omega)] at k
  exact k
theorem sp_figOf {t : PT} {a : AP} {i : Nat} {post : Int32 → Prop} (h : RP t a) (g : GP a) (hi : i < aN a) (k : post (nI (aF a i))) : p_X3_figureOf t (nI i) post := by
  have h9 := g.1
  unfold p_X3_figureOf
  refine sp_there_t h g hi (br_f (by decide) ⟨vin9 (by omega), ?_⟩)
  rw [← h.f (by omega)] at k
  exact k
theorem sp_holdsOf {t : PT} {a : AP} {i : Nat} {post : Int32 → Prop} (h : RP t a) (g : GP a) (hi : i < aN a) (k : post (nI (aH a i))) : p_X3_holdsOf t (nI i) post := by
  have h9 := g.1
  unfold p_X3_holdsOf
  refine sp_there_t h g hi (br_f (by decide) ⟨vin9 (by omega), ?_⟩)
  rw [← h.h (by omega)] at k
  exact k
theorem sp_nextOf {t : PT} {a : AP} {i : Nat} {post : Int32 → Prop} (h : RP t a) (g : GP a) (hi : i < aN a) (k : post (nI (aX a i))) : p_X3_nextOf t (nI i) post := by
  have h9 := g.1
  unfold p_X3_nextOf
  refine sp_there_t h g hi (br_f (by decide) ⟨vin9 (by omega), ?_⟩)
  rw [← h.x (by omega)] at k
  exact k
theorem sp_lets3 {t : PT} {a : AP} {i : Nat} {post : Int32 → Prop} (h : RP t a) (g : GP a) (hi : i < aN a) (k : post (nI (letN (aK a i) (aF a i) (aH a i)))) : p_X3_letsThrough t (nI i) post := by
  have h9 := g.1
  obtain ⟨g1, g2, g3, -⟩ := g.2.1 i (by omega)
  unfold p_X3_letsThrough
  refine sp_there_t h g hi (br_f (by decide) ⟨vin9 (by omega), vin9 (by omega), vin9 (by omega), ?_⟩)
  rw [h.k (by omega), h.f (by omega), h.h (by omega)]
  exact sp_lets0 g1 g2 g3 k
/-! what all hold -/
def sumN (f : Nat → Nat) (n : Nat) : Nat := pre (fun i s => s + f i) 0 n
theorem sp_holdsAll {t : PT} {a : AP} {post : Int32 → Prop} (h : RP t a) (g : GP a) (k : post (nI (sumN (aH a) (aN a)))) : p_X3_holdsInAll t post := by
  have h9 := g.1
  unfold p_X3_holdsInAll
  refine lpN_up (aN a) (fun i z => z.2 = nI i ∧ z.1 = nI (sumN (aH a) i)) (by omega) ?_ ?_ _ ⟨rfl, rfl⟩
  · rintro K i ⟨x, y⟩ hi ⟨e1, e2⟩ hK
    dsimp only at e1 e2
    subst e1; subst e2
    refine bLe (aN a) i h.2.1 rfl (by omega) (by omega) (fun q => absurd q (by omega)) (fun _ => ⟨vin9 (by omega), nm_in (fun v e => ?_)⟩)
    rw [h.h (by omega)] at e
    refine hK _ ⟨nI_1 i, ?_⟩
    rw [e]
    exact nI_add _ _
  · rintro K ⟨x, y⟩ ⟨e1, e2⟩
    dsimp only at e1 e2
    subst e1; subst e2
    exact bLe (aN a) (aN a) h.2.1 rfl (by omega) (by omega) (fun _ => k) (fun q => absurd q (by omega))
theorem sp_allHold {t : PT} {a : AP} {post : Int32 → Prop} (h : RP t a) (g : GP a) (k : post (nI (sumN (aH a) (aN a)))) : p_X6_allHold t post := by
  have h9 := g.1
  unfold p_X6_allHold
  refine lpN_up (aN a) (fun i z => z.2 = nI i ∧ z.1 = nI (sumN (aH a) i)) (by omega) ?_ ?_ _ ⟨rfl, rfl⟩
  · rintro K i ⟨x, y⟩ hi ⟨e1, e2⟩ hK
    dsimp only at e1 e2
    subst e1; subst e2
    refine bLe (aN a) i h.2.1 rfl (by omega) (by omega) (fun q => absurd q (by omega)) (fun _ => ⟨vin9 (by omega), nm_in (fun v e => ?_)⟩)
    rw [h.h (by omega)] at e
    refine hK _ ⟨nI_1 i, ?_⟩
    rw [e]
    exact nI_add _ _
  · rintro K ⟨x, y⟩ ⟨e1, e2⟩
    dsimp only at e1 e2
    subst e1; subst e2
    exact bLe (aN a) (aN a) h.2.1 rfl (by omega) (by omega) (fun _ => k) (fun q => absurd q (by omega))
