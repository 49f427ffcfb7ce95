theorem sp_held {x : Nat} {m : Int32} {M : Nat} {post : Int32 → Prop} (hm : m = nI M) (hx : x < 2 ^ 31) (hM : M < 2 ^ 31) (k : post (nI (min x M))) : p_X6_held (nI x) m post := by
  subst hm
  unfold p_X6_held
  refine br_t (nI_pos' hx) (bLe x M rfl rfl hx hM (fun q => ?_) (fun q => ?_))
  · rw [Nat.min_eq_left q] at k; exact k
  · rw [Nat.min_eq_right (by omega)] at k; exact k
theorem sp_heldNeg {x : Int32} {m : Int32} {post : Int32 → Prop} (hx : x < 0) (k : post 0) : p_X6_held x m post := by
  unfold p_X6_held
  exact br_f (Int32.not_le.mpr hx) k
theorem sp_heldSub {x y : Nat} {post : Int32 → Prop} (hx : x < 100) (hy : y < 100) (k : post (nI (x - y))) : p_X6_held (nI x - nI y) 99 post := by
  rcases Nat.lt_or_ge x y with q | q
  · refine sp_heldNeg (pk_sneg (by omega) q) ?_
    rw [show x - y = 0 by omega] at k
    exact k
  · rw [pk_sub q]
    refine sp_held (M := 99) rfl (by omega) (by omega) ?_
    rw [Nat.min_eq_left (by omega)]
    exact k
theorem RP.k {t : PT} {a : AP} (h : RP t a) {i : Nat} (hi : i < 9) : t.1 (nI i).toNatClampNeg = nI (aK a i) := by rw [cl_nI (by omega)]; exact (h.1 i hi).1
theorem RP.f {t : PT} {a : AP} (h : RP t a) {i : Nat} (hi : i < 9) : t.2.1 (nI i).toNatClampNeg = nI (aF a i) := by rw [cl_nI (by omega)]; exact (h.1 i hi).2.1
theorem RP.h {t : PT} {a : AP} (h : RP t a) {i : Nat} (hi : i < 9) : t.2.2.1 (nI i).toNatClampNeg = nI (aH a i) := by rw [cl_nI (by omega)]; exact (h.1 i hi).2.2.1
theorem RP.x {t : PT} {a : AP} (h : RP t a) {i : Nat} (hi : i < 9) : t.2.2.2.1 (nI i).toNatClampNeg = nI (aX a i) := by rw [cl_nI (by omega)]; exact (h.1 i hi).2.2.2
theorem sp_letsOf {t : PT} {a : AP} {i : Nat} {post : Int32 → Prop} (h : RP t a) (g : GP a) (hi : i < 9) (k : post (nI (letN (aK a i) (aF a i) (aH a i)))) : p_X6_letsOf t (nI i) post := by
  obtain ⟨g1, g2, g3, g4⟩ := g.2.1 i hi
  unfold p_X6_letsOf
  refine ⟨vin9 hi, ?_⟩
  rw [h.h hi, h.k hi, h.f hi]
  refine nm_in (fun v hv => ⟨vin9 hi, ?_⟩)
  subst hv
  revert k
  generalize aK a i = K at g1 ⊢
  generalize aF a i = F at g2 ⊢
  generalize aH a i = H at g3 ⊢
  intro k
  match K, g1 with
  | 0, _ =>
    have e : (nI H + 1) / 2 = nI (letN 0 F H) := by rw [nI_1, div2 (by omega)]; rfl
    rw [← e] at k
    exact br_f (by decide) (br_f (by decide) (br_f (by decide) (br_f (by decide) (br_f (by decide) k))))
  | 1, _ => exact br_t (by decide) k
  | 2, _ =>
    refine br_f (by decide) (br_t (by decide) ?_)
    refine sp_heldSub (y := 1) g3 (by omega) ?_
    show p_X6_held (nI H / 2) (nI (H - 1)) post
    rw [div2 (by omega)]
    exact sp_held rfl (by omega) (by omega) k
  | 3, _ =>
    refine br_f (by decide) (br_f (by decide) (br_t (by decide) ⟨vin9 hi, ?_⟩))
    exact sp_held rfl (by omega) (by omega) k
  | 4, _ =>
    refine br_f (by decide) (br_f (by decide) (br_f (by decide) (br_t (by decide) ⟨vin9 hi, ?_⟩)))
    exact sp_heldSub g3 (by omega) k
  | 5, _ =>
    refine br_f (by decide) (br_f (by decide) (br_f (by decide) (br_f (by decide) (br_t (by decide) ?_))))
    refine sp_heldSub (y := 3) g3 (by omega) ?_
    show p_X6_held (nI H / 4) (nI (H - 3)) post
    rw [div4 (by omega)]
    exact sp_held rfl (by omega) (by omega) k
theorem sp_addsOf {t : PT} {a : AP} {i : Nat} {post : Int32 → Prop} (h : RP t a) (g : GP a) (hi : i < 9) (k : post (nI (addN (aK a i) (aF a i)))) : p_X6_addsOf t (nI i) post := by
  obtain ⟨g1, g2, -⟩ := g.2.1 i hi
  unfold p_X6_addsOf
  refine ⟨vin9 hi, ?_⟩
  rw [h.k hi, h.f hi]
  revert k
  generalize aK a i = K at g1 ⊢
  generalize aF a i = F at g2 ⊢
  intro k
  match K, g1 with
  | 0, _ => exact br_f (by decide) (br_f (by decide) (br_f (by decide) (br_f (by decide) (br_f (by decide) k))))
  | 1, _ => exact br_t (by decide) ⟨vin9 hi, k⟩
  | 2, _ => exact br_f (by decide) (br_t (by decide) k)
  | 3, _ => exact br_f (by decide) (br_f (by decide) (br_t (by decide) k))
  | 4, _ =>
    have e : nI F / 2 = nI (addN 4 F) := div2 (by omega)
    rw [← e] at k
    exact br_f (by decide) (br_f (by decide) (br_f (by decide) (br_t (by decide) ⟨vin9 hi, k⟩)))
  | 5, _ =>
    have e : nI F + 3 = nI (addN 5 F) := nI_add F 3
    rw [← e] at k
    exact br_f (by decide) (br_f (by decide) (br_f (by decide) (br_f (by decide) (br_t (by decide) ⟨vin9 hi, k⟩))))
theorem bt2_or (s i : Nat) : bt2 s i = 0 ∨ bt2 s i = 1 := by have := bt2_lt s i; omega
theorem sp_hasBit {s i : Nat} {post : Int32 → Prop} (hs : s < 2 ^ 31) (hi : i < 10) (k : post (nI (bt2 s i))) : p_X6_hasBit (nI s) (nI i) post := by
  unfold p_X6_hasBit
  rw [bit9 hs hi]
  rcases bt2_or s i with e | e <;> rw [e] at k ⊢
  · exact br_f (by decide) k
  · exact br_t (by decide) k
theorem sp_isBlk {t : PT} {a : AP} {i : Nat} {post : Int32 → Prop} (h : RP t a) (g : GP a) (hi : i < aN a) (k : post (nI (bt2 (aS a) i))) : p_X3_isBlocked t (nI i) post := by
  have h9 := g.1
  have hs := g.s512
  unfold p_X3_isBlocked
  refine sp_there_t h g hi (br_f (by decide) ?_)
  rw [h.2.2.1, bit9 (by omega) (by omega)]
  rcases bt2_or (aS a) i with e | e <;> rw [e] at k ⊢
  · exact br_f (by decide) k
  · exact br_t (by decide) k
theorem sp_isWet {t : PT} {a : AP} {i : Nat} {post : Int32 → Prop} (h : RP t a) (g : GP a) (hi : i < aN a) (k : post (nI (bt2 (aW a) i))) : p_X3_isWet t (nI i) post := by
  have h9 := g.1
  have hs := g.w512
  unfold p_X3_isWet
  refine sp_there_t h g hi (br_f (by decide) ?_)
  rw [h.2.2.2.1, bit9 (by omega) (by omega)]
  rcases bt2_or (aW a) i with e | e <;> rw [e] at k ⊢
  · exact br_f (by decide) k
  · exact br_t (by decide) k
/-! pouring -/
def fillA (a : AP) (i v : Nat) : AP := (aK a, aF a, upN (aH a) i (min 99 (aH a i + v)), aX a, aN a, aS a, (if v = 0 then aW a else aW a ||| 2 ^ i), aC a, aO a)
theorem or_lt {w n i : Nat} (hw : w < 2 ^ n) (hi : i < n) : w ||| 2 ^ i < 2 ^ n := Nat.or_lt_two_pow hw (Nat.pow_lt_pow_right (by decide) hi)
theorem GP.fill {a : AP} (g : GP a) {i v : Nat} (hi : i < aN a) : GP (fillA a i v) := by
  refine ⟨g.1, fun j hj => ⟨(g.2.1 j hj).1, (g.2.1 j hj).2.1, ?_, (g.2.1 j hj).2.2.2⟩, g.2.2.1, g.2.2.2.1, ?_, g.2.2.2.2.2⟩
  · show upN (aH a) i _ j < 100
    by_cases e : j = i
    · subst e; rw [upN_s]; omega
    · rw [upN_n e]; exact (g.2.1 j hj).2.2.1
  · show (if v = 0 then aW a else aW a ||| 2 ^ i) < 2 ^ aN a
    split
    · exact g.2.2.2.2.1
    · exact or_lt g.2.2.2.2.1 hi
theorem minI {x M : Nat} (hx : x < 2 ^ 31) (hM : M < 2 ^ 31) : (if nI x < nI M then nI x else nI M) = nI (min M x) := by
  by_cases q : x < M
  · rw [if_pos (nI_lt q hM), Nat.min_eq_right (by omega)]
  · rw [if_neg (nI_nlt (by omega) hx), Nat.min_eq_left (by omega)]
theorem sp_fill {t : PT} {a : AP} {i v : Nat} {post : Int32 → PT → Prop} (h : RP t a) (g : GP a) (hi : i < aN a) (hv : v < 1000000) (k : ∀ t', RP t' (fillA a i v) → t'.2.2.2.2.2.2.2.2.2 = t.2.2.2.2.2.2.2.2.2 → post 1 t') : p_X3_fill t (nI i) (nI v) post := by
  have h9 := g.1
  have hi9 : i < 9 := by omega
  have hh := (g.2.1 i hi9).2.2.1
  unfold p_X3_fill
  refine sp_there_t h g hi (br_f (by decide) ⟨vin9 hi9, vin9 hi9, ?_⟩)
  have e : (if t.2.2.1 (nI i).toNatClampNeg + nI v < 99 then t.2.2.1 (nI i).toNatClampNeg + nI v else 99) = nI (min 99 (aH a i + v)) := by
    rw [h.h hi9, nI_add]
    exact minI (M := 99) (by omega) (by omega)
  rw [e]
  refine nm_in (fun hd2 ehd => ?_)
  have hu : ∀ j, j < 9 → hd2 j = nI (upN (aH a) i (min 99 (aH a i + v)) j) := by rw [ehd]; exact upd_up hi9 (fun j hj => (h.1 j hj).2.2.1) rfl
  refine bLe v 0 rfl rfl (by omega) (by omega) (fun q => ?_) (fun q => ?_)
  · have hv0 : v = 0 := by omega
    subst hv0
    refine k _ ⟨fun j hj => ⟨(h.1 j hj).1, (h.1 j hj).2.1, hu j hj, (h.1 j hj).2.2.2⟩, h.2.1, h.2.2.1, h.2.2.2.1, h.2.2.2.2.1, h.2.2.2.2.2⟩ rfl
  · refine nm_in (fun w hw => ?_)
    refine k _ ⟨fun j hj => ⟨(h.1 j hj).1, (h.1 j hj).2.1, hu j hj, (h.1 j hj).2.2.2⟩, h.2.1, h.2.2.1, ?_, h.2.2.2.2.1, h.2.2.2.2.2⟩ rfl
    show w = nI (if v = 0 then aW a else aW a ||| 2 ^ i)
    rw [if_neg (by omega), hw, h.2.2.2.1, shl9 i (by omega), fa_or]
theorem sp_fillN {t : PT} {a : AP} {i : Nat} {v : Int32} {post : Int32 → PT → Prop} (h : RP t a) (g : GP a) (hi : aN a ≤ i) (hi2 : i < 2 ^ 31) (k : post 0 t) : p_X3_fill t (nI i) v post := by
  unfold p_X3_fill
  exact sp_there_n h g hi hi2 (br_t rfl k)
theorem sp_pourIn {t : PT} {a : AP} {i v : Nat} {post : PT → Prop} (h : RP t a) (g : GP a) (hi : i < aN a) (hv : v < 1000000) (k : ∀ t', RP t' (fillA a i v) → t'.2.2.2.2.2.2.2.2.2 = t.2.2.2.2.2.2.2.2.2 → post t') : p_X6_pourIn t (nI i) (nI v) post := by
  have h9 := g.1
  have hi9 : i < 9 := by omega
  have hh := (g.2.1 i hi9).2.2.1
  unfold p_X6_pourIn
  refine ⟨vin9 hi9, ?_⟩
  rw [h.h hi9, nI_add]
  refine sp_held (M := 99) rfl (by omega) (by omega) ⟨vin9 hi9, ?_⟩
  refine nm_in (fun hd2 ehd => ?_)
  have hu : ∀ j, j < 9 → hd2 j = nI (upN (aH a) i (min 99 (aH a i + v)) j) := by rw [ehd]; exact upd_up hi9 (fun j hj => (h.1 j hj).2.2.1) (by rw [Nat.min_comm])
  refine bLe v 0 rfl rfl (by omega) (by omega) (fun q => ?_) (fun q => ?_)
  · have hv0 : v = 0 := by omega
    subst hv0
    refine nm_in (fun w hw => ?_)
    refine k _ ⟨fun j hj => ⟨(h.1 j hj).1, (h.1 j hj).2.1, hu j hj, (h.1 j hj).2.2.2⟩, h.2.1, h.2.2.1, ?_, h.2.2.2.2.1, h.2.2.2.2.2⟩ rfl
    show w = nI (aW a)
    rw [hw, h.2.2.2.1]
    show nI (aW a) ||| nI 0 = _
    rw [fa_or, Nat.or_zero]
  · refine nm_in (fun w hw => ?_)
    refine k _ ⟨fun j hj => ⟨(h.1 j hj).1, (h.1 j hj).2.1, hu j hj, (h.1 j hj).2.2.2⟩, h.2.1, h.2.2.1, ?_, h.2.2.2.2.1, h.2.2.2.2.2⟩ rfl
    show w = nI (if v = 0 then aW a else aW a ||| 2 ^ i)
    rw [if_neg (by omega), hw, h.2.2.2.1, shl9 i (by omega), fa_or]
