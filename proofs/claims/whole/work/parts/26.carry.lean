set_option maxHeartbeats 1000000 in
theorem sp_carryAllT {t : PT} {a : AP} {ks : KS} {ar : F1} {ix : Nat} {post : PT × KS × F1 → Prop} (h : RP t a) (k : ∀ t' ks' ar', RP t' a → t'.2.2.2.2.2.2.2.2.1 = nI (aO a) → RK ar' a → post (t', ks', ar')) : p_X6_carryAll t ks ar ix 1 post := by
  unfold p_X6_carryAll
  refine ⟨bz_1, ?_⟩
  refine sp_carryT (p := 0) (by decide) ?_
  refine sp_carryT (p := 1) (by decide) ?_
  refine sp_carryT (p := 2) (by decide) ?_
  refine sp_carryT (p := 3) (by decide) ?_
  refine sp_carryT (p := 4) (by decide) ?_
  refine lpN_up 9 (fun i z => z.1 = nI i ∧ (∀ j, j < 9 → z.2.1 j = nI (aK a j) ∧ z.2.2.1 j = nI (aF a j) ∧ z.2.2.2.1 j = nI (aH a j) ∧ z.2.2.2.2.1 j = nI (aX a j)) ∧ z.2.2.2.2.2.1 = nI (5 + 4 * i) ∧ z.2.2.2.2.2.2.1 = 1 ∧ ∀ q, q < 5 + 4 * i → z.2.2.2.2.2.2.2 q = nI (flat a q)) (by decide) ?_ ?_ _ ⟨rfl, h.1, rfl, rfl, ?_⟩
  · rintro K i ⟨x, kd, fg, hd, nx, pl, tk, arv⟩ hi ⟨e1, hA, e2, e3, hr⟩ hK
    dsimp only at e1 hA e2 e3 hr
    subst e1; subst e2; subst e3
    obtain ⟨k1, k2, k3, k4⟩ := hA i hi
    have c9 : (nI i).toNatClampNeg = i := cl_nI (by omega)
    have ups : ∀ (f : F1) (g : Nat → Nat), (∀ j, j < 9 → f j = nI (g j)) → ∀ j, j < 9 → upd f (nI i).toNatClampNeg (f (nI i).toNatClampNeg) j = nI (g j) := by
      intro f g hf j hj
      rw [c9]
      by_cases e : j = i
      · subst e; rw [pk_us]; exact hf j hj
      · rw [pk_un e]; exact hf j hj
    refine bLe 9 i rfl rfl (by omega) (by omega) (fun q => absurd q (by omega)) (fun _ => ⟨vin9 hi, ?_⟩)
    refine sp_carryT (by omega) ?_
    refine ⟨vin9 hi, nm_in (fun f1 d1 => ⟨vin9 hi, ?_⟩)⟩
    refine sp_carryT (by omega) ?_
    refine ⟨vin9 hi, nm_in (fun f2 d2 => ⟨vin9 hi, ?_⟩)⟩
    refine sp_carryT (by omega) ?_
    refine ⟨vin9 hi, nm_in (fun f3 d3 => ⟨vin9 hi, ?_⟩)⟩
    refine sp_carryT (by omega) ?_
    refine ⟨vin9 hi, nm_in (fun f4 d4 => ?_)⟩
    refine hK _ ⟨nI_1 i, fun j hj => ⟨?_, ?_, ?_, ?_⟩, ?_, rfl, ?_⟩
    · rw [d1]; exact ups kd (aK a) (fun j hj => (hA j hj).1) j hj
    · rw [d2]; exact ups fg (aF a) (fun j hj => (hA j hj).2.1) j hj
    · rw [d3]; exact ups hd (aH a) (fun j hj => (hA j hj).2.2.1) j hj
    · rw [d4]; exact ups nx (aX a) (fun j hj => (hA j hj).2.2.2) j hj
    · show nI (5 + 4 * i + 1 + 1 + 1 + 1) = nI (5 + 4 * (i + 1))
      congr 1
    · have r1 := rk_add hr (v := kd (nI i).toNatClampNeg) (by rw [c9, flat_K]; exact k1)
      have r2 := rk_add r1 (v := fg (nI i).toNatClampNeg) (by rw [c9, flat_F]; exact k2)
      have r3 := rk_add r2 (v := hd (nI i).toNatClampNeg) (by rw [c9, flat_H]; exact k3)
      have r4 := rk_add r3 (v := nx (nI i).toNatClampNeg) (by rw [c9, flat_X]; exact k4)
      intro q hq
      exact r4 q (by omega)
  · rintro K ⟨x, kd, fg, hd, nx, pl, tk, arv⟩ ⟨e1, hA, e2, e3, hr⟩
    dsimp only at e1 hA e2 e3 hr
    subst e1
    exact bLe 9 9 rfl rfl (by omega) (by omega) (fun _ => k _ _ _ ⟨hA, h.2⟩ h.2.2.2.2.2 (fun q hq => hr q (by omega))) (fun q => absurd q (by omega))
  · have z0 := rk_add (a := a) (ar := ar) (p := 0) (v := t.2.2.2.2.1) (fun q hq => absurd hq (Nat.not_lt_zero _)) h.2.1
    have z1 := rk_add z0 (v := t.2.2.2.2.2.1) h.2.2.1
    have z2 := rk_add z1 (v := t.2.2.2.2.2.2.1) h.2.2.2.1
    have z3 := rk_add z2 (v := t.2.2.2.2.2.2.2.1) h.2.2.2.2.1
    have z4 := rk_add z3 (v := t.2.2.2.2.2.2.2.2.1) h.2.2.2.2.2
    exact z4
set_option maxHeartbeats 1000000 in
theorem sp_carryAllR {t : PT} {a : AP} {ks : KS} {ar : F1} {ix : Nat} {post : PT × KS × F1 → Prop} (h : RK ar a) (k : ∀ t' ks', RP t' a → t'.2.2.2.2.2.2.2.2.2 = t.2.2.2.2.2.2.2.2.2 → post (t', ks', ar)) : p_X6_carryAll t ks ar ix 0 post := by
  unfold p_X6_carryAll
  refine ⟨bz_0, ?_⟩
  refine sp_carryR (p := 0) (by decide) ?_
  refine sp_carryR (p := 1) (by decide) ?_
  refine sp_carryR (p := 2) (by decide) ?_
  refine sp_carryR (p := 3) (by decide) ?_
  refine sp_carryR (p := 4) (by decide) ?_
  refine lpN_up 9 (fun i z => z.1 = nI i ∧ (∀ j, j < i → z.2.1 j = nI (aK a j) ∧ z.2.2.1 j = nI (aF a j) ∧ z.2.2.2.1 j = nI (aH a j) ∧ z.2.2.2.2.1 j = nI (aX a j)) ∧ z.2.2.2.2.2.1 = nI (5 + 4 * i) ∧ z.2.2.2.2.2.2.1 = 0 ∧ z.2.2.2.2.2.2.2 = ar) (by decide) ?_ ?_ _ ⟨rfl, fun j hj => absurd hj (Nat.not_lt_zero _), rfl, rfl, rfl⟩
  · rintro K i ⟨x, kd, fg, hd, nx, pl, tk, arv⟩ hi ⟨e1, hA, e2, e3, e4⟩ hK
    dsimp only at e1 hA e2 e3 e4
    subst e1; subst e2; subst e3; subst e4
    have c9 : (nI i).toNatClampNeg = i := cl_nI (by omega)
    have ups : ∀ (f : F1) (g : Nat → Nat) (v : Int32), v = nI (g i) → (∀ j, j < i → f j = nI (g j)) → ∀ j, j < i + 1 → upd f (nI i).toNatClampNeg v j = nI (g j) := by
      intro f g v hv hf j hj
      rw [c9]
      by_cases e : j = i
      · subst e; rw [pk_us]; exact hv
      · rw [pk_un e]; exact hf j (by omega)
    refine bLe 9 i rfl rfl (by omega) (by omega) (fun q => absurd q (by omega)) (fun _ => ⟨vin9 hi, ?_⟩)
    refine sp_carryR (by omega) ?_
    refine ⟨vin9 hi, nm_in (fun f1 d1 => ⟨vin9 hi, ?_⟩)⟩
    refine sp_carryR (by omega) ?_
    refine ⟨vin9 hi, nm_in (fun f2 d2 => ⟨vin9 hi, ?_⟩)⟩
    refine sp_carryR (by omega) ?_
    refine ⟨vin9 hi, nm_in (fun f3 d3 => ⟨vin9 hi, ?_⟩)⟩
    refine sp_carryR (by omega) ?_
    refine ⟨vin9 hi, nm_in (fun f4 d4 => ?_)⟩
    refine hK _ ⟨nI_1 i, fun j hj => ⟨?_, ?_, ?_, ?_⟩, ?_, rfl, rfl⟩
    · rw [d1]; exact ups kd (aK a) _ ((h _ (by omega)).trans (by rw [flat_K])) (fun j hj => (hA j hj).1) j hj
    · rw [d2]; exact ups fg (aF a) _ ((h _ (by omega)).trans (by rw [flat_F])) (fun j hj => (hA j hj).2.1) j hj
    · rw [d3]; exact ups hd (aH a) _ ((h _ (by omega)).trans (by rw [flat_H])) (fun j hj => (hA j hj).2.2.1) j hj
    · rw [d4]; exact ups nx (aX a) _ ((h _ (by omega)).trans (by rw [flat_X])) (fun j hj => (hA j hj).2.2.2) j hj
    · show nI (5 + 4 * i + 1 + 1 + 1 + 1) = nI (5 + 4 * (i + 1))
      congr 1
  · rintro K ⟨x, kd, fg, hd, nx, pl, tk, arv⟩ ⟨e1, hA, e2, e3, e4⟩
    dsimp only at e1 hA e2 e3 e4
    subst e1; subst e4
    exact bLe 9 9 rfl rfl (by omega) (by omega) (fun _ => k _ _ ⟨hA, h 0 (by decide), h 1 (by decide), h 2 (by decide), h 3 (by decide), h 4 (by decide)⟩ rfl) (fun q => absurd q (by omega))
theorem sp_think6 {t : PT} {a : AP} {ks : KS} {kp : F1} {post : PT × KS × F1 → Prop} (h : RP t a) (k : ∀ t' ks' kp', RP t' a → RK kp' a → post (t', ks', kp')) : p_X6_think t ks kp post := by
  unfold p_X6_think
  exact sp_carryAllT h (fun t' ks' ar' h1 _ h2 => k t' ks' ar' h1 h2)
theorem sp_again6 {t : PT} {a : AP} {ks : KS} {kp : F1} {post : PT × KS × F1 → Prop} (h : RK kp a) (k : ∀ t' ks', RP t' a → post (t', ks', kp)) : p_X6_again t ks kp post := by
  unfold p_X6_again
  exact sp_carryAllR h (fun t' ks' h1 _ => k t' ks' h1)
theorem sp_cupThen {t : PT} {a b : AP} {ks : KS} {kp : F1} {n : Nat} {post : Int32 → PT × KS × F1 → Prop} (h : RP t b) (g : GP b) (hk : RK kp a) (hn : n < 900) (k : ∀ t' ks', RP t' a → post (nI (aC (flowsA b n))) (t', ks', kp)) : p_X6_cupThen t ks kp (nI n) post := by
  unfold p_X6_cupThen
  refine sp_goHours h g hn (fun t' hR => ?_)
  refine sp_again6 hk (fun t2 ks2 h2 => ?_)
  have e : t'.2.2.2.2.2.2.2.1 = nI (aC (flowsA b n)) := hR.2.2.2.2.1
  show post t'.2.2.2.2.2.2.2.1 _
  rw [e]
  exact k t2 ks2 h2
