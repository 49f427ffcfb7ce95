theorem fl_none {i : Nat} {s : AP × Nat × Nat} (h : (flS i s).2.1 = 0) : flS i s = s := by
  unfold flS at h ⊢
  by_cases w : lvA s.1 i = 0
  · rw [if_pos w]
  · rw [if_neg w] at h
    split at h <;> exact absurd h (show ¬ (1 : Nat) = 0 by decide)
theorem flP_none (a : AP) : ∀ i, (flP a i).2.1 = 0 → flP a i = (a, 0, 0)
  | 0, _ => rfl
  | i + 1, h => by
    have e : flP a (i + 1) = flS i (flP a i) := rfl
    rw [e] at h ⊢
    have e2 := fl_none h
    rw [e2] at h ⊢
    exact flP_none a i h
theorem flow_none {a : AP} (h : flwd a = 0) : flowA a = a := congrArg Prod.fst (flP_none a (aN a) h)
theorem drip_none {a : AP} (h : flwd a = 0) : drip a = 0 := congrArg (fun z => z.2.2) (flP_none a (aN a) h)
def flowsA (a : AP) (k : Nat) : AP := itr flowA a k
def hoursA (a : AP) (k : Nat) : AP := setO (flowsA a k) (aO a + k)
theorem GP.flows {a : AP} (g : GP a) : ∀ k, GP (flowsA a k)
  | 0 => g
  | k + 1 => (GP.flows g k).flow
theorem GP.hours {a : AP} (g : GP a) (k : Nat) : GP (hoursA a k) := (g.flows k).setO
theorem flows_O {a : AP} (g : GP a) : ∀ k, aO (flowsA a k) = aO a
  | 0 => rfl
  | k + 1 => (flow_O (g.flows k)).trans (flows_O g k)
theorem flows_N {a : AP} (g : GP a) : ∀ k, aN (flowsA a k) = aN a
  | 0 => rfl
  | k + 1 => (flow_N (g.flows k)).trans (flows_N g k)
theorem flows_X {a : AP} (g : GP a) : ∀ k, aX (flowsA a k) = aX a
  | 0 => rfl
  | k + 1 => (flow_X (g.flows k)).trans (flows_X g k)
theorem flows_S {a : AP} (g : GP a) : ∀ k, aS (flowsA a k) = aS a
  | 0 => rfl
  | k + 1 => (flow_S (g.flows k)).trans (flows_S g k)
theorem tick_hours (a : AP) (k : Nat) : tickA (hoursA a k) = hoursA a (k + 1) := by
  unfold tickA hoursA
  rw [flow_setO]
  rfl
theorem hours_0 (a : AP) : hoursA a 0 = a := rfl
theorem flows_stay {a : AP} {i : Nat} (h : flwd (flowsA a i) = 0) : ∀ n, flowsA a (i + n) = flowsA a i
  | 0 => rfl
  | n + 1 => by
    show flowA (flowsA a (i + n)) = _
    rw [flows_stay h n, flow_none h]
theorem sp_goHours {t : PT} {a : AP} {n : Nat} {post : PT → Prop} (h : RP t a) (g : GP a) (hn : n < 900) (k : ∀ t', RP t' (hoursA a n) → post t') : p_X6_goHours t (nI n) post := by
  unfold p_X6_goHours
  refine lpN_up n (fun i z => z.1 = nI i ∧ RP z.2 (hoursA a i)) (by omega) ?_ ?_ _ ⟨rfl, h⟩
  · rintro K i ⟨x1, t⟩ hi ⟨e1, hR⟩ hK
    dsimp only at e1 hR
    subst e1
    refine bLe n i rfl rfl (by omega) (by omega) (fun q => absurd q (by omega)) (fun _ => ?_)
    refine sp_hour0 hR (g.hours i) (fun t' hR2 _ => ?_)
    rw [tick_hours] at hR2
    exact hK _ ⟨nI_1 i, hR2⟩
  · rintro K ⟨x1, t⟩ ⟨e1, hR⟩
    dsimp only at e1 hR
    subst e1
    exact bLe n n rfl rfl (by omega) (by omega) (fun _ => k _ hR) (fun q => absurd q (by omega))
theorem sp_pass {t : PT} {a : AP} {n : Nat} {post : PT → Prop} (h : RP t a) (g : GP a) (hn : n < 900) (k : ∀ t', RP t' (hoursA a n) → post t') : p_X3_pass t (nI n) post := by
  have fin : ∀ t', RP t' (flowsA a n) → post (t'.1, t'.2.1, t'.2.2.1, t'.2.2.2.1, t'.2.2.2.2.1, t'.2.2.2.2.2.1, t'.2.2.2.2.2.2.1, t'.2.2.2.2.2.2.2.1, t'.2.2.2.2.2.2.2.2.1 + nI n, t'.2.2.2.2.2.2.2.2.2) := by
    intro t' hR
    refine k _ ⟨hR.1, hR.2.1, hR.2.2.1, hR.2.2.2.1, hR.2.2.2.2.1, ?_⟩
    show t'.2.2.2.2.2.2.2.2.1 + nI n = nI (aO a + n)
    rw [hR.2.2.2.2.2, flows_O g, nI_add]
  unfold p_X3_pass
  refine lpN_up n (fun i z => z.1 = nI i ∧ RP z.2 (flowsA a i)) (by omega) ?_ ?_ _ ⟨rfl, h⟩
  · rintro K i ⟨x1, t⟩ hi ⟨e1, hR⟩ hK
    dsimp only at e1 hR
    subst e1
    refine bLe n i rfl rfl (by omega) (by omega) (fun q => absurd q (by omega)) (fun _ => ?_)
    have hf := flwd_le (g.flows i)
    refine sp_flow hR (g.flows i) (fun t' hR2 _ => ?_)
    refine bEq (flwd (flowsA a i)) 0 rfl rfl (by omega) (by omega) (fun q => ?_) (fun _ => ?_)
    · refine fin t' ?_
      rw [show n = i + (n - i) by omega, flows_stay q]
      rw [flow_none q] at hR2
      exact hR2
    · exact hK _ ⟨nI_1 i, hR2⟩
  · rintro K ⟨x1, t⟩ ⟨e1, hR⟩
    dsimp only at e1 hR
    subst e1
    exact bLe n n rfl rfl (by omega) (by omega) (fun _ => fin t hR) (fun q => absurd q (by omega))
theorem cpy9 {f g : F1} {i : Nat} (h : i < 9) : va_cpy f g ((0 : Int32)).toNatClampNeg ((0 : Int32)).toNatClampNeg ((9 : Int32)).toNatClampNeg i = f i := by
  have e0 : ((0 : Int32)).toNatClampNeg = 0 := by decide
  have e9 : ((9 : Int32)).toNatClampNeg = 9 := by decide
  rw [e0, e9, pk_cpy_in (by omega) (by omega)]
  congr 1
  omega
theorem sp_become {t u : PT} {a : AP} {post : PT → Prop} (h : RP u a) (k : ∀ t', RP t' a → post t') : p_X3_become t u post := by
  unfold p_X3_become
  refine nm_in (fun f1 e1 => nm_in (fun f2 e2 => nm_in (fun f3 e3 => nm_in (fun f4 e4 => ?_))))
  subst e1; subst e2; subst e3; subst e4
  refine k _ ⟨fun i hi => ?_, h.2⟩
  obtain ⟨h1, h2, h3, h4⟩ := h.1 i hi
  exact ⟨(cpy9 hi).trans h1, (cpy9 hi).trans h2, (cpy9 hi).trans h3, (cpy9 hi).trans h4⟩
theorem sp_think5 {n m : PT} {a : AP} {post : PT → Prop} (h : RP n a) (k : ∀ m', RP m' a → post m') : p_X5_think n m post := by
  unfold p_X5_think
  exact sp_become h k
theorem sp_inCup {t : PT} {a : AP} {post : Int32 → Prop} (h : RP t a) (k : post (nI (aC a))) : p_X3_inCup t post := by
  unfold p_X3_inCup
  have e := h.2.2.2.2.1
  rw [← e] at k
  exact k
theorem sp_cupBehind {m : PT} {a : AP} {n : Nat} {post : Int32 → PT → Prop} (h : RP m a) (g : GP a) (hn : n < 900) (k : ∀ m', RP m' (hoursA a n) → post (nI (aC (flowsA a n))) m') : p_X5_cupBehind m (nI n) post := by
  unfold p_X5_cupBehind
  refine sp_pass h g hn (fun m' hR => ?_)
  refine sp_inCup hR ?_
  exact k m' hR
/-! the reference's copies of a parish in a row of 41 -/
def flat (a : AP) (p : Nat) : Nat := if p = 0 then aN a else if p = 1 then aS a else if p = 2 then aW a else if p = 3 then aC a else if p = 4 then aO a else if (p - 5) % 4 = 0 then aK a ((p - 5) / 4) else if (p - 5) % 4 = 1 then aF a ((p - 5) / 4) else if (p - 5) % 4 = 2 then aH a ((p - 5) / 4) else aX a ((p - 5) / 4)
theorem flat_K (a : AP) (h : Nat) : flat a (5 + 4 * h) = aK a h := by
  unfold flat
  rw [if_neg (by omega), if_neg (by omega), if_neg (by omega), if_neg (by omega), if_neg (by omega), if_pos (by omega)]
  congr 1; omega
theorem flat_F (a : AP) (h : Nat) : flat a (5 + 4 * h + 1) = aF a h := by
  unfold flat
  rw [if_neg (by omega), if_neg (by omega), if_neg (by omega), if_neg (by omega), if_neg (by omega), if_neg (by omega), if_pos (by omega)]
  congr 1; omega
theorem flat_H (a : AP) (h : Nat) : flat a (5 + 4 * h + 2) = aH a h := by
  unfold flat
  rw [if_neg (by omega), if_neg (by omega), if_neg (by omega), if_neg (by omega), if_neg (by omega), if_neg (by omega), if_neg (by omega), if_pos (by omega)]
  congr 1; omega
theorem flat_X (a : AP) (h : Nat) : flat a (5 + 4 * h + 3) = aX a h := by
  unfold flat
  rw [if_neg (by omega), if_neg (by omega), if_neg (by omega), if_neg (by omega), if_neg (by omega), if_neg (by omega), if_neg (by omega), if_neg (by omega)]
  congr 1; omega
/-- a row holds a parish from a place on, as far as told -/
def RK (f : F1) (a : AP) : Prop := ∀ p, p < 41 → f p = nI (flat a p)
theorem vin41 {i : Nat} (h : i < 41) : vp_in (nI i) 41 := vp_in_nI h (by decide)
theorem sp_carryT {p ix : Nat} {ki : Option Nat} {ar : F1} {v : Int32} {post : Int32 → KS × F1 → Prop} (hp : p < 41) (k : post v ((nI (p + 1), 1, some ix), upd ar p v)) : p_X6_carry (nI p, 1, ki) ar ix v post := by
  unfold p_X6_carry
  refine br_f (show ¬ (1 : Int32) = 0 by decide) ⟨vin41 hp, nm_in (fun ar2 e2 => nm_in (fun w ew => ?_))⟩
  subst e2
  have e : w - 1 = nI p := by rw [ew]; show nI p + 1 - 1 = nI p; rw [nI_1, nI_pred]
  refine ⟨by rw [e]; exact vin41 hp, ?_⟩
  show post (upd ar (nI p).toNatClampNeg v (w - 1).toNatClampNeg) ((w, 1, some ix), upd ar (nI p).toNatClampNeg v)
  rw [e, cl_nI (by omega), pk_us, ew]
  show post v ((nI p + 1, 1, some ix), upd ar p v)
  rw [nI_1]
  exact k
theorem sp_carryR {p ix : Nat} {ki : Option Nat} {ar : F1} {v : Int32} {post : Int32 → KS × F1 → Prop} (hp : p < 41) (k : post (ar p) ((nI (p + 1), 0, some ix), ar)) : p_X6_carry (nI p, 0, ki) ar ix v post := by
  unfold p_X6_carry
  refine br_t rfl (nm_in (fun w ew => ?_))
  have e : w - 1 = nI p := by rw [ew]; show nI p + 1 - 1 = nI p; rw [nI_1, nI_pred]
  refine ⟨by rw [e]; exact vin41 hp, ?_⟩
  show post (ar (w - 1).toNatClampNeg) ((w, 0, some ix), ar)
  rw [e, cl_nI (by omega), ew]
  show post (ar p) ((nI p + 1, 0, some ix), ar)
  rw [nI_1]
  exact k
theorem rk_add {ar : F1} {a : AP} {p : Nat} {v : Int32} (h : ∀ q, q < p → ar q = nI (flat a q)) (hv : v = nI (flat a p)) : ∀ q, q < p + 1 → upd ar p v q = nI (flat a q) := by
  intro q hq
  by_cases e : q = p
  · subst e; rw [pk_us]; exact hv
  · rw [pk_un e]; exact h q (by omega)
