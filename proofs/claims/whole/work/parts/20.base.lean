/-! numbers: comparisons of small ones, what a shift and a mask make of them -/
theorem bLe {x y : Int32} {A B : Prop} (a b : Nat) (hx : x = nI a) (hy : y = nI b) (ha : a < 2 ^ 31) (hb : b < 2 ^ 31) (f : a ≤ b → A) (g : b < a → B) : (x ≤ y → A) ∧ (¬ x ≤ y → B) := by
  subst hx; subst hy
  rw [nI_leI ha hb]
  exact ⟨f, fun h => g (by omega)⟩
theorem bLt {x y : Int32} {A B : Prop} (a b : Nat) (hx : x = nI a) (hy : y = nI b) (ha : a < 2 ^ 31) (hb : b < 2 ^ 31) (f : a < b → A) (g : b ≤ a → B) : (x < y → A) ∧ (¬ x < y → B) := by
  subst hx; subst hy
  rw [nI_ltI ha hb]
  exact ⟨f, fun h => g (by omega)⟩
theorem bEq {x y : Int32} {A B : Prop} (a b : Nat) (hx : x = nI a) (hy : y = nI b) (ha : a < 2 ^ 31) (hb : b < 2 ^ 31) (f : a = b → A) (g : a ≠ b → B) : (x = y → A) ∧ (¬ x = y → B) := by
  subst hx; subst hy
  rw [nI_eq ha hb]
  exact ⟨f, fun h => g h⟩
theorem ite_ap {α : Sort _} {c : Prop} [Decidable c] {post : α → Prop} {a b : α} (h : post (if c then a else b)) : (c → post a) ∧ (¬ c → post b) := ⟨fun hc => by rw [if_pos hc] at h; exact h, fun hc => by rw [if_neg hc] at h; exact h⟩
theorem fa_and (a b : Nat) : nI a &&& nI b = nI (a &&& b) := by
  apply Int32.toBitVec_inj.1
  show BitVec.ofNat 32 a &&& BitVec.ofNat 32 b = BitVec.ofNat 32 (a &&& b)
  apply BitVec.eq_of_getLsbD_eq
  intro i hi
  simp [hi]
theorem fa_or (a b : Nat) : nI a ||| nI b = nI (a ||| b) := by
  apply Int32.toBitVec_inj.1
  show BitVec.ofNat 32 a ||| BitVec.ofNat 32 b = BitVec.ofNat 32 (a ||| b)
  apply BitVec.eq_of_getLsbD_eq
  intro i hi
  simp [hi]
theorem fa_xor (a b : Nat) : nI a ^^^ nI b = nI (a ^^^ b) := by
  apply Int32.toBitVec_inj.1
  show BitVec.ofNat 32 a ^^^ BitVec.ofNat 32 b = BitVec.ofNat 32 (a ^^^ b)
  apply BitVec.eq_of_getLsbD_eq
  intro i hi
  simp [hi]
theorem shl9 : ∀ i, i < 10 → (1 : Int32) <<< (nI i &&& 31) = nI (2 ^ i) := by decide +kernel
/-- a bit of a number -/
def bt2 (s i : Nat) : Nat := s / 2 ^ i % 2
theorem bt2_lt (s i : Nat) : bt2 s i < 2 := Nat.mod_lt _ (by decide)
theorem shr9 : ∀ i, i < 10 → ((nI i &&& 31).toBitVec.smod 32).toNat = i := by decide +kernel
theorem bit9 {s i : Nat} (hs : s < 2 ^ 31) (hi : i < 10) : (nI s >>> (nI i &&& 31)) &&& 1 = nI (bt2 s i) := by
  rw [pk_shrN hs _ i (shr9 i hi), pk_andN (m := 1) (by have := Nat.div_le_self s (2 ^ i); omega) 1 (by decide)]
  rfl
theorem cl_nI {i : Nat} (h : i < 2 ^ 31) : (nI i).toNatClampNeg = i := nI_clamp h
/-! parishes as whole numbers -/
abbrev AP : Type := (Nat → Nat) × (Nat → Nat) × (Nat → Nat) × (Nat → Nat) × Nat × Nat × Nat × Nat × Nat
abbrev aK (a : AP) : Nat → Nat := a.1
abbrev aF (a : AP) : Nat → Nat := a.2.1
abbrev aH (a : AP) : Nat → Nat := a.2.2.1
abbrev aX (a : AP) : Nat → Nat := a.2.2.2.1
abbrev aN (a : AP) : Nat := a.2.2.2.2.1
abbrev aS (a : AP) : Nat := a.2.2.2.2.2.1
abbrev aW (a : AP) : Nat := a.2.2.2.2.2.2.1
abbrev aC (a : AP) : Nat := a.2.2.2.2.2.2.2.1
abbrev aO (a : AP) : Nat := a.2.2.2.2.2.2.2.2
/-- a parish of the class, or the core of the reference, holds these numbers -/
def RP (t : PT) (a : AP) : Prop := (∀ i, i < 9 → t.1 i = nI (aK a i) ∧ t.2.1 i = nI (aF a i) ∧ t.2.2.1 i = nI (aH a i) ∧ t.2.2.2.1 i = nI (aX a i)) ∧ t.2.2.2.2.1 = nI (aN a) ∧ t.2.2.2.2.2.1 = nI (aS a) ∧ t.2.2.2.2.2.2.1 = nI (aW a) ∧ t.2.2.2.2.2.2.2.1 = nI (aC a) ∧ t.2.2.2.2.2.2.2.2.1 = nI (aO a)
/-- what holds of every parish -/
def GP (a : AP) : Prop := aN a ≤ 9 ∧ (∀ i, i < 9 → aK a i < 6 ∧ aF a i < 10 ∧ aH a i < 100 ∧ aX a i ≤ 9) ∧ (∀ i, i < aN a → i < aX a i) ∧ aS a < 2 ^ aN a ∧ aW a < 2 ^ aN a ∧ aC a ≤ 9999
theorem GP.n9 {a : AP} (h : GP a) : aN a ≤ 9 := h.1
theorem GP.s512 {a : AP} (h : GP a) : aS a < 512 := Nat.lt_of_lt_of_le h.2.2.2.1 (Nat.pow_le_pow_right (n := 2) (by decide) h.1)
theorem GP.w512 {a : AP} (h : GP a) : aW a < 512 := Nat.lt_of_lt_of_le h.2.2.2.2.1 (Nat.pow_le_pow_right (n := 2) (by decide) h.1)
theorem vin9 {i : Nat} (h : i < 9) : vp_in (nI i) 9 := vp_in_nI h (by decide)
def upN (f : Nat → Nat) (k x : Nat) : Nat → Nat := fun j => if j = k then x else f j
theorem upN_s {f : Nat → Nat} {k x : Nat} : upN f k x k = x := by simp [upN]
theorem upN_n {f : Nat → Nat} {k x j : Nat} (h : j ≠ k) : upN f k x j = f j := by simp [upN, h]
theorem upd_up {f : F1} {g : Nat → Nat} {k x : Nat} {v : Int32} (hk : k < 9) (h : ∀ i, i < 9 → f i = nI (g i)) (hv : v = nI x) : ∀ i, i < 9 → upd f (nI k).toNatClampNeg v i = nI (upN g k x i) := by
  intro i hi
  rw [cl_nI (by omega)]
  by_cases e : i = k
  · subst e; rw [pk_us, upN_s]; exact hv
  · rw [pk_un e, upN_n e]; exact h i hi
/-! loops -/
theorem lpN_up {σ : Type} {F : (σ → Prop) → σ → Prop} (N : Nat) (I : Nat → σ → Prop) (hN : N < 999) (step : ∀ (K : σ → Prop) (i : Nat) (s : σ), i < N → I i s → (∀ s', I (i + 1) s' → K s') → F K s) (last : ∀ (K : σ → Prop) (s : σ), I N s → F K s) (s : σ) (h0 : I 0 s) : lpN F 1000 s := by
  refine lpN_ok (fun m s => ∃ i, i + m = N ∧ I i s) ?_ 1000 N s (by omega) ⟨0, by omega, h0⟩
  rintro K m s ⟨i, hi, hI⟩ hK
  rcases Nat.lt_or_ge i N with h | h
  · exact step K i s h hI (fun s' hs' => hK (m - 1) s' (by omega) ⟨i + 1, by omega, hs'⟩)
  · have : i = N := by omega
    subst this
    exact last K s hI
/-- what a run of steps has made before the i-th -/
def pre {σ : Type} (f : Nat → σ → σ) (s : σ) : Nat → σ
  | 0 => s
  | i + 1 => f i (pre f s i)
def itr {σ : Type} (f : σ → σ) (s : σ) : Nat → σ
  | 0 => s
  | i + 1 => f (itr f s i)
/-! what a house lets through, what it adds -/
def letN (k f h : Nat) : Nat := if k = 1 then h else if k = 2 then min (h / 2) (h - 1) else if k = 3 then min f h else if k = 4 then h - f else if k = 5 then min (h / 4) (h - 3) else (h + 1) / 2
def addN (k f : Nat) : Nat := if k = 1 then f else if k = 2 then 3 else if k = 3 then 0 else if k = 4 then f / 2 else if k = 5 then f + 3 else 1
theorem letN_le (k f h : Nat) : letN k f h ≤ h := by unfold letN; (repeat' split) <;> omega
theorem addN_le (k f : Nat) (hf : f < 10) : addN k f ≤ 12 := by unfold addN; (repeat' split) <;> omega
theorem div2 {a : Nat} (h : a < 2 ^ 31) : nI a / 2 = nI (a / 2) := pk_div (d := 2) h (by decide) (by decide)
theorem div4 {a : Nat} (h : a < 2 ^ 31) : nI a / 4 = nI (a / 4) := pk_div (d := 4) h (by decide) (by decide)
