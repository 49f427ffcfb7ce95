theorem bs_mono {w v : Nat → Nat} {n : Nat} (h : ∀ i, w i ≤ v i) : ∀ m, bsN w n m ≤ bsN v n m
  | 0 => Nat.le_refl _
  | m + 1 => by
    show bsN w n m + bnN n m * w m ≤ bsN v n m + bnN n m * v m
    exact Nat.add_le_add (bs_mono h m) (Nat.mul_le_mul_left _ (h m))
theorem bs_pow (q : Nat) : ∀ n, n ≤ 7 → ∀ c, bsN (fun i => c * q ^ i) n (n + 1) = c * (q + 1) ^ n := by
  intro n
  induction n with
  | zero => intro _ c; simp [bsN, bnN, pre]
  | succ n ih =>
    intro hn c
    rw [bs_s _ n (by omega), ih (by omega) c]
    have e : (fun i => (fun i => c * q ^ i) (i + 1)) = fun i => (c * q) * q ^ i := by
      funext i
      show c * q ^ (i + 1) = c * q * q ^ i
      rw [Nat.pow_succ, Nat.mul_assoc, Nat.mul_comm (q ^ i) q]
    rw [e, ih (by omega) (c * q), Nat.pow_succ, ← Nat.add_mul, Nat.mul_comm ((q + 1) ^ n) (q + 1), ← Nat.mul_assoc, Nat.mul_add, Nat.mul_one]
set_option maxRecDepth 100000 in
theorem bn_le : ∀ n, n < 8 → ∀ j, j < 9 → bnN n j ≤ 35 := by decide +kernel
def wB (a : AP) (p q i : Nat) : Nat := if p ≤ aC (flowsA a i) then q ^ i else 0
theorem bs_le {a : AP} {p q n : Nat} (hn : n ≤ 7) : bsN (wB a p q) n (n + 1) ≤ (q + 1) ^ n := by
  have h := bs_mono (w := wB a p q) (v := fun i => 1 * q ^ i) (n := n) (fun i => by
    show wB a p q i ≤ 1 * q ^ i
    unfold wB
    rw [Nat.one_mul]
    split
    · exact Nat.le_refl _
    · exact Nat.zero_le _) (n + 1)
  rw [bs_pow q n hn 1, Nat.one_mul] at h
  exact h
