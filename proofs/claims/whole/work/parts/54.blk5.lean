theorem p7 {p n : Nat} (hp : p ≤ 20) (hn : n ≤ 7) : p ^ n < 2 ^ 31 := Nat.lt_of_le_of_lt (Nat.le_trans (Nat.pow_le_pow_left hp n) (Nat.pow_le_pow_right (n := 20) (by decide) hn)) (by decide)
theorem blk5 {m : PT} {a : AP} {N p q c u : Nat} {rf : F1} {post : Int64 → PT × F1 → Prop} (h : RP m a) (g : GP a) (hN : N ≤ 7) (hp : p = q + 1) (hq : p ≤ 20) (hc : c ≤ 999) (hu : u ≤ 1) (k : ∀ m', post (nL (prtN (bsN (wB a c q) N (N + 1)) (p ^ N) u)) (m', rf)) : lpN (fun (K16 : (Int64 × Int64 × Int64 × Int64 × Int32 × PT) → Prop) (z16 : Int64 × Int64 × Int64 × Int64 × Int32 × PT) => (fun (y10 : Int64) (y11 : Int64) (y12 : Int64) (y13 : Int64) (x14 : Int32) (mv15 : PT) => ((nI N < x14 → p_X5_partOf y10 y11 (nI u) (fun (r17 : Int64) => post r17 (mv15, rf))) ∧ (¬ nI N < x14 → p_X3_inCup mv15 (fun (r18 : Int32) => jn (fun (z20 : Int64) => (fun (y19 : Int64) => ((¬ ((x14 + (1 : Int32))).toInt64 = 0) ∧ nm (((y12 * ((nI N - x14)).toInt64) / ((x14 + (1 : Int32))).toInt64) : Int64) (fun (v21 : Int64) => nm ((y13 * ((nI p - (1 : Int32))).toInt64) : Int64) (fun (v22 : Int64) => jn (fun (z24 : Int64) => (fun (y23 : Int64) => nm ((y11 * y23) : Int64) (fun (v25 : Int64) => p_X3_flow mv15 (fun (r26 : Int32) (u26 : PT) => (fun (mv27 : PT) => K16 (y19, v25, v21, v22, (x14 + 1), mv27)) u26))) z24) (fun J24 => ((nI N ≤ x14 → J24 (1 : Int64)) ∧ (¬ nI N ≤ x14 → J24 (nI p).toInt64))))))) z20) (fun J20 => ((r18 < nI c → J20 y10) ∧ (¬ r18 < nI c → nm ((y10 + (y12 * y13)) : Int64) (fun (v28 : Int64) => J20 v28)))))))) z16.1 z16.2.1 z16.2.2.1 z16.2.2.2.1 z16.2.2.2.2.1 z16.2.2.2.2.2) 1000 ((0 : Int64), (1 : Int64), (1 : Int64), (1 : Int64), (0 : Int32), m) := by
  have bx : ∀ j, j ≤ N → (nI j + 1).toInt64 = nL (j + 1) := fun j hj => by rw [nI_1, nI_L (by omega)]
  refine lpN_up (N + 1) (fun j z => z.1 = nL (bsN (wB a c q) N j) ∧ z.2.1 = nL (p ^ min j N) ∧ z.2.2.1 = nL (bnN N j) ∧ z.2.2.2.1 = nL (q ^ j) ∧ z.2.2.2.2.1 = nI j ∧ RP z.2.2.2.2.2 (flowsA a j)) (by omega) ?_ ?_ _ ⟨rfl, by rw [Nat.zero_min]; rfl, rfl, rfl, rfl, h⟩
  · rintro K j ⟨y0, y1, y2, y3, x, t⟩ hj ⟨e0, e1, e2, e3, e4, hR⟩ hK
    dsimp only at e0 e1 e2 e3 e4 hR
    subst e0; subst e1; subst e2; subst e3; subst e4
    have cl := (g.flows j).2.2.2.2.2
    have bl := bn_le N (by omega) j (by omega)
    refine bLt N j rfl rfl (by omega) (by omega) (fun w => absurd w (by omega)) (fun _ => sp_inCup hR ?_)
    have J : ∀ y19 : Int64, y19 = nL (bsN (wB a c q) N (j + 1)) → ((¬ (nI j + 1).toInt64 = 0) ∧ nm ((nL (bnN N j) * (nI N - nI j).toInt64) / (nI j + 1).toInt64) (fun (v21 : Int64) => nm (nL (q ^ j) * (nI p - 1).toInt64) (fun (v22 : Int64) => ((nI N ≤ nI j → nm (nL (p ^ min j N) * 1) (fun (v25 : Int64) => p_X3_flow t (fun (r26 : Int32) (u26 : PT) => K (y19, v25, v21, v22, nI j + 1, u26)))) ∧ (¬ nI N ≤ nI j → nm (nL (p ^ min j N) * (nI p).toInt64) (fun (v25 : Int64) => p_X3_flow t (fun (r26 : Int32) (u26 : PT) => K (y19, v25, v21, v22, nI j + 1, u26)))))))) := by
      intro y19 hy
      rw [bx j (by omega), nI_subN (show j ≤ N by omega), nI_L (show N - j < 2 ^ 31 by omega), nL_mul, nL_div (Nat.lt_of_le_of_lt (Nat.mul_le_mul bl (show N - j ≤ 7 by omega)) (by decide)) (by omega) (by omega)]
      rw [show nI p - 1 = nI q from by rw [hp]; exact nI_subN (a := q + 1) (b := 1) (by omega), nI_L (show q < 2 ^ 31 by omega), nL_mul, nI_L (show p < 2 ^ 31 by omega)]
      refine ⟨nL_ne0 (by omega) (by omega), nm_in (fun v21 e21 => nm_in (fun v22 e22 => ?_))⟩
      refine bLe N j rfl rfl (by omega) (by omega) (fun w => nm_in (fun v25 e25 => sp_flow hR (g.flows j) (fun t' ht' _ => hK _ ⟨hy, ?_, e21, e22, nI_1 j, ht'⟩))) (fun w => nm_in (fun v25 e25 => sp_flow hR (g.flows j) (fun t' ht' _ => hK _ ⟨hy, ?_, e21, e22, nI_1 j, ht'⟩)))
      · refine e25.trans ?_
        rw [show min (j + 1) N = min j N by omega]
        exact Int64.mul_one _
      · refine e25.trans ?_
        rw [nL_mul, show min (j + 1) N = min j N + 1 by omega, Nat.pow_succ]
    refine bLt (aC (flowsA a j)) c rfl rfl (by omega) (by omega) (fun w => J _ ?_) (fun w => nm_in (fun v28 e28 => J _ (e28.trans ?_)))
    · show _ = nL (bsN (wB a c q) N j + bnN N j * wB a c q j)
      rw [show wB a c q j = 0 from if_neg (by omega), Nat.mul_zero, Nat.add_zero]
    · show _ = nL (bsN (wB a c q) N j + bnN N j * wB a c q j)
      rw [show wB a c q j = q ^ j from if_pos w, nL_mul, nL_add]
  · rintro K ⟨y0, y1, y2, y3, x, t⟩ ⟨e0, e1, e2, e3, e4, hR⟩
    dsimp only at e0 e1 e2 e3 e4 hR
    subst e0; subst e1; subst e2; subst e3; subst e4
    rw [show min (N + 1) N = N by omega]
    have pl := p7 hq hN
    have bl := bs_le (a := a) (p := c) (q := q) hN
    rw [← hp] at bl
    exact bLt N (N + 1) rfl rfl (by omega) (by omega) (fun _ => sp_part5 (by omega) pl hu (fun _ => Nat.pow_pos (by omega)) (k t)) (fun w => absurd w (by omega))
