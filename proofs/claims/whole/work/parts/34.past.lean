/-! the past: keeping, going back -/
theorem nI_mulN (a b : Nat) : nI a * nI b = nI (a * b) := (Int32.ofNat_mul a b).symm
theorem nI_subN {a b : Nat} (h : b ≤ a) : nI a - nI b = nI (a - b) := by
  have e : nI a = nI (a - b) + nI b := by rw [nI_add]; congr 1; omega
  rw [e]
  exact Int32.add_sub_cancel _ _
theorem nx8 : ∀ la, la < 8 → (nI la + 1) - (nI la + 1) / 8 * 8 = nI ((la + 1) % 8) := by decide
theorem pv8 : ∀ la, la < 8 → (nI la + 8 - 1) - (nI la + 8 - 1) / 8 * 8 = nI ((la + 7) % 8) := by decide
theorem sz8 : ∀ k, k ≤ 8 → (if nI k + 1 < 8 then nI k + 1 else 8) = nI (min 8 (k + 1)) := by decide
theorem up_s {P : Nat → PT} {i : Nat} {x : PT} : va_up P i x i = x := by simp [va_up]
theorem up_n {P : Nat → PT} {i j : Nat} {x : PT} (h : j ≠ i) : va_up P i x j = P j := by simp [va_up, h]
theorem sp_keep5 {hh : HT} {P : Nat → PT} {t : PT} {b : AP} {k la : Nat} {post : HT × (Nat → PT) → Prop} (h1 : hh.1 = nI la) (h2 : hh.2 = nI k) (hla : la < 8) (hk : k ≤ 8) (ht : RP t b) (q : ∀ P', RP (P' ((la + 1) % 8)) b → (∀ j, j ≠ (la + 1) % 8 → P' j = P j) → post ((nI ((la + 1) % 8), nI (min 8 (k + 1))), P')) : p_X4_keep hh P t post := by
  obtain ⟨l0, k0⟩ := hh
  dsimp only at h1 h2
  subst h1; subst h2
  have hm : (la + 1) % 8 < 8 := Nat.mod_lt _ (by decide)
  unfold p_X4_keep
  refine nm_in (fun v e => nm_in (fun w e2 => ?_))
  have e' : v = nI ((la + 1) % 8) := e.trans (nx8 la hla)
  have e2' : w = nI (min 8 (k + 1)) := e2.trans (sz8 k hk)
  subst e'; subst e2'
  refine ⟨vp_in_nI hm (by decide), sp_become ht (fun u hu => q _ ?_ (fun j hj => ?_))⟩
  · rw [cl_nI (by omega), up_s]; exact hu
  · rw [cl_nI (by omega), up_n hj]
theorem sp_give5 {hh : HT} {P : Nat → PT} {t : PT} {b : AP} {k la : Nat} {post : Int32 → HT × PT → Prop} (h1 : hh.1 = nI la) (h2 : hh.2 = nI (k + 1)) (hla : la < 8) (hk : k + 1 ≤ 8) (ht : RP (P la) b) (q : ∀ t', RP t' b → post 1 ((nI ((la + 7) % 8), nI k), t')) : p_X4_giveLatest hh P t post := by
  obtain ⟨l0, k0⟩ := hh
  dsimp only at h1 h2
  subst h1; subst h2
  unfold p_X4_giveLatest
  refine br_f (nI_ne0 (by omega) (by omega)) ⟨vp_in_nI hla (by decide), ?_⟩
  have c : (nI la).toNatClampNeg = la := cl_nI (by omega)
  refine sp_become (a := b) ?_ (fun u hu => nm_in (fun v e => nm_in (fun w e2 => ?_)))
  · show RP (P (nI la).toNatClampNeg) b
    rw [c]; exact ht
  · have e' : v = nI ((la + 7) % 8) := e.trans (pv8 la hla)
    have e2' : w = nI k := e2.trans (nI_subN (a := k + 1) (b := 1) (by omega))
    subst e'; subst e2'
    exact q _ hu
set_option maxHeartbeats 1000000 in
theorem sp_keep6 {c : PT} {a : AP} {ks : KS} {td : Int32} {ts tf : F1} {k : Nat} {post : PT × KS × Int32 × F1 × F1 → Prop} (h : RP c a) (e : td = nI k) (hk : k ≤ 8) (q : ∀ c' ks' ts' tf', RP c' a → (∀ p, p < 41 → ts' (41 * min 7 k + p) = nI (flat a p)) → (∀ x, x < 41 * min 7 k → ts' x = ts (if k = 8 then x + 41 else x)) → post (c', ks', nI (min 8 (k + 1)), ts', tf')) : p_X6_keepTurn c ks td ts tf post := by
  subst e
  have tail : ∀ (d : Nat) (ts1 : F1), d ≤ 7 → d = min 7 k → (∀ x, x < 41 * d → ts1 x = ts (if k = 8 then x + 41 else x)) → p_X6_carryAll c ks tf 12 (1 : Int32) (fun (u4 : PT × KS × F1) => lpN (fun (K21 : (Int32 × F1) → Prop) (z21 : Int32 × F1) => (((41 : Int32) ≤ z21.1 → nm ((nI d + (1 : Int32)) : Int32) (fun (v22 : Int32) => post (u4.1, u4.2.1, v22, z21.2, u4.2.2))) ∧ (¬ (41 : Int32) ≤ z21.1 → (vp_in z21.1 41 ∧ (vp_in (((41 : Int32) * nI d) + z21.1) 328 ∧ nm (upd z21.2 ((((41 : Int32) * nI d) + z21.1)).toNatClampNeg (u4.2.2 (z21.1).toNatClampNeg)) (fun (tsv23 : F1) => K21 ((z21.1 + 1), tsv23))))))) 1000 ((0 : Int32), ts1)) := by
    intro d ts1 hd ed hts
    refine sp_carryAllT h (fun c' ks' tf' hc _ hr => ?_)
    refine lpN_up 41 (fun i z => z.1 = nI i ∧ (∀ p, p < i → z.2 (41 * d + p) = nI (flat a p)) ∧ (∀ x, x < 41 * d → z.2 x = ts1 x)) (by decide) ?_ ?_ _ ⟨rfl, fun p hp => absurd hp (Nat.not_lt_zero _), fun x _ => rfl⟩
    · rintro K i ⟨x, f⟩ hi ⟨e1, e2, e3⟩ hK
      dsimp only at e1 e2 e3
      subst e1
      have ix : (41 : Int32) * nI d + nI i = nI (41 * d + i) := by
        rw [show (41 : Int32) = nI 41 from rfl, nI_mulN, nI_add]
      refine bLe 41 i rfl rfl (by omega) (by omega) (fun w => absurd w (by omega)) (fun _ => ⟨vin41 hi, ?_, nm_in (fun f2 d2 => hK _ ⟨nI_1 i, fun p hp => ?_, fun x hx => ?_⟩)⟩)
      · rw [ix]; exact vp_in_nI (by omega) (by decide)
      · dsimp only
        rw [d2, ix, cl_nI (by omega), cl_nI (by omega)]
        by_cases w : p = i
        · subst w; rw [pk_us]; exact hr _ hi
        · rw [pk_un (by omega)]; exact e2 p (by omega)
      · dsimp only
        rw [d2, ix, cl_nI (by omega), pk_un (by omega)]; exact e3 x hx
    · rintro K ⟨x, f⟩ ⟨e1, e2, e3⟩
      dsimp only at e1 e2 e3
      subst e1
      refine bLe 41 41 rfl rfl (by omega) (by omega) (fun _ => nm_in (fun v e => ?_)) (fun w => absurd w (by omega))
      have e' : v = nI (min 8 (k + 1)) := by rw [e, nI_1]; congr 1; omega
      subst e'
      refine q _ _ _ _ hc (fun p hp => ?_) (fun x hx => ?_)
      · rw [← ed]; exact e2 p hp
      · rw [← ed] at hx; exact (e3 x hx).trans (hts x hx)
  unfold p_X6_keepTurn
  refine bEq k 8 rfl rfl (by omega) (by omega) (fun k8 => ?_) (fun k8 => ?_)
  · refine lpN_up 287 (fun i z => z.1 = nI (41 + i) ∧ (∀ x, x < i → z.2 x = ts (x + 41)) ∧ (∀ x, i ≤ x → z.2 x = ts x)) (by decide) ?_ ?_ _ ⟨rfl, fun x hx => absurd hx (Nat.not_lt_zero _), fun x _ => rfl⟩
    · rintro K i ⟨x, f⟩ hi ⟨e1, e2, e3⟩ hK
      dsimp only at e1 e2 e3
      subst e1
      have ix : nI (41 + i) - 41 = nI i := by
        rw [show (41 : Int32) = nI 41 from rfl, nI_subN (by omega)]; congr 1; omega
      refine bLe 328 (41 + i) rfl rfl (by omega) (by omega) (fun w => absurd w (by omega)) (fun _ => ⟨vp_in_nI (by omega) (by decide), by rw [ix]; exact vp_in_nI (by omega) (by decide), nm_in (fun f2 d2 => hK _ ⟨nI_1 _, fun x hx => ?_, fun x hx => ?_⟩)⟩)
      · dsimp only
        rw [d2, ix, cl_nI (by omega), cl_nI (by omega)]
        by_cases w : x = i
        · subst w; rw [pk_us]; exact (e3 (41 + x) (by omega)).trans (congrArg ts (by omega))
        · rw [pk_un (by omega)]; exact e2 x (by omega)
      · dsimp only
        rw [d2, ix, cl_nI (by omega), pk_un (by omega)]; exact e3 x (by omega)
    · rintro K ⟨x, f⟩ ⟨e1, e2, e3⟩
      dsimp only at e1 e2 e3
      subst e1
      refine bLe 328 328 rfl rfl (by omega) (by omega) (fun _ => nm_in (fun v e => ?_)) (fun w => absurd w (by omega))
      have e' : v = nI 7 := by rw [e, k8]; rfl
      subst e'
      exact tail 7 f (by omega) (by omega) (fun x hx => by rw [if_pos k8]; exact e2 x (by omega))
  · exact tail k ts (by omega) (by omega) (fun x hx => by rw [if_neg k8])
theorem past_kept {k la : Nat} {P P' : Nat → PT} {ts ts' : F1} {a : AP} (hk : k ≤ 8) (hla : la < 8) (hv : ∀ j, j < k → ∃ b, RP (P ((la + 8 - j) % 8)) b ∧ (∀ p, p < 41 → ts (41 * (k - 1 - j) + p) = nI (flat b p)) ∧ GP b ∧ aO b ≤ 999) (hP : RP (P' ((la + 1) % 8)) a) (hP2 : ∀ j, j ≠ (la + 1) % 8 → P' j = P j) (t1 : ∀ p, p < 41 → ts' (41 * min 7 k + p) = nI (flat a p)) (t2 : ∀ x, x < 41 * min 7 k → ts' x = ts (if k = 8 then x + 41 else x)) (g : GP a) (ho : aO a ≤ 999) : IPa (nI ((la + 1) % 8), nI (min 8 (k + 1))) P' (nI (min 8 (k + 1))) ts' := by
  refine ⟨min 8 (k + 1), (la + 1) % 8, Nat.min_le_left _ _, Nat.mod_lt _ (by decide), rfl, rfl, rfl, fun j hj => ?_⟩
  rcases Nat.eq_zero_or_pos j with rfl | j0
  · refine ⟨a, ?_, fun p hp => ?_, g, ho⟩
    · rw [show ((la + 1) % 8 + 8 - 0) % 8 = (la + 1) % 8 by omega]; exact hP
    · rw [show min 8 (k + 1) - 1 - 0 = min 7 k by omega]; exact t1 p hp
  · obtain ⟨i, rfl⟩ : ∃ i, j = i + 1 := ⟨j - 1, by omega⟩
    obtain ⟨b, b1, b2, b3, b4⟩ := hv i (by omega)
    refine ⟨b, ?_, fun p hp => ?_, b3, b4⟩
    · rw [show ((la + 1) % 8 + 8 - (i + 1)) % 8 = (la + 8 - i) % 8 by omega, hP2 _ (by omega)]; exact b1
    · rw [← b2 p hp]
      rw [t2 _ (by omega)]
      by_cases w : k = 8
      · rw [if_pos w]; congr 1; omega
      · rw [if_neg w]; congr 2; omega
theorem past_back {k la : Nat} {P : Nat → PT} {ts : F1} (hk : k + 1 ≤ 8) (hv : ∀ j, j < k + 1 → ∃ b, RP (P ((la + 8 - j) % 8)) b ∧ (∀ p, p < 41 → ts (41 * (k + 1 - 1 - j) + p) = nI (flat b p)) ∧ GP b ∧ aO b ≤ 999) (hla : la < 8) : IPa (nI ((la + 7) % 8), nI k) P (nI k) ts := by
  refine ⟨k, (la + 7) % 8, by omega, Nat.mod_lt _ (by decide), rfl, rfl, rfl, fun j hj => ?_⟩
  obtain ⟨b, b1, b2, b3, b4⟩ := hv (j + 1) (by omega)
  refine ⟨b, ?_, fun p hp => ?_, b3, b4⟩
  · rw [show ((la + 7) % 8 + 8 - j) % 8 = (la + 8 - (j + 1)) % 8 by omega]; exact b1
  · rw [← b2 p hp]; exact congrArg ts (by omega)
