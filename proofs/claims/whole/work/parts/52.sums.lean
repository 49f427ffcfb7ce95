/-! the sums of blocked -/
def zerN (x n : Nat) : Nat := pre (fun j s => if bt2 x j = 0 then s + 1 else s) 0 n
def mskN (w : Nat → Nat) (n m : Nat) : Nat := pre (fun x s => s + w (zerN x n)) 0 m
def bnN (n i : Nat) : Nat := pre (fun j c => c * (n - j) / (j + 1)) 1 i
def bsN (w : Nat → Nat) (n m : Nat) : Nat := pre (fun i s => s + bnN n i * w i) 0 m
set_option maxRecDepth 100000 in
theorem zer_lo : ∀ n, n < 7 → ∀ x, x < 2 ^ n → zerN x (n + 1) = zerN x n + 1 := by decide +kernel
set_option maxRecDepth 100000 in
theorem zer_hi : ∀ n, n < 7 → ∀ x, x < 2 ^ n → zerN (2 ^ n + x) (n + 1) = zerN x n := by decide +kernel
theorem msk_lo {w : Nat → Nat} {n : Nat} (hn : n < 7) : ∀ m, m ≤ 2 ^ n → mskN w (n + 1) m = mskN (fun i => w (i + 1)) n m
  | 0, _ => rfl
  | m + 1, h => by
    show mskN w (n + 1) m + w (zerN m (n + 1)) = mskN (fun i => w (i + 1)) n m + w (zerN m n + 1)
    rw [msk_lo hn m (by omega), zer_lo n hn m (by omega)]
theorem msk_hi {w : Nat → Nat} {n : Nat} (hn : n < 7) : ∀ m, m ≤ 2 ^ n → mskN w (n + 1) (2 ^ n + m) = mskN w (n + 1) (2 ^ n) + mskN w n m
  | 0, _ => rfl
  | m + 1, h => by
    show mskN w (n + 1) (2 ^ n + m) + w (zerN (2 ^ n + m) (n + 1)) = mskN w (n + 1) (2 ^ n) + (mskN w n m + w (zerN m n))
    rw [msk_hi hn m (by omega), zer_hi n hn m (by omega)]
    omega
theorem msk_s {w : Nat → Nat} {n : Nat} (hn : n < 7) : mskN w (n + 1) (2 ^ (n + 1)) = mskN (fun i => w (i + 1)) n (2 ^ n) + mskN w n (2 ^ n) := by
  have e : 2 ^ (n + 1) = 2 ^ n + 2 ^ n := by rw [Nat.pow_succ]; omega
  rw [e, msk_hi hn _ (Nat.le_refl _), msk_lo hn _ (Nat.le_refl _)]
theorem bs_s (w : Nat → Nat) : ∀ n, n < 7 → bsN w (n + 1) (n + 2) = bsN (fun i => w (i + 1)) n (n + 1) + bsN w n (n + 1) := by
  have b : ∀ n, n < 8 → ∀ i, i < 8 → bnN n i = bnN n i := fun _ _ _ _ => rfl
  intro n hn
  match n, hn with
  | 0, _ => simp [bsN, bnN, pre]; omega
  | 1, _ => simp [bsN, bnN, pre]; omega
  | 2, _ => simp [bsN, bnN, pre]; omega
  | 3, _ => simp [bsN, bnN, pre]; omega
  | 4, _ => simp [bsN, bnN, pre]; omega
  | 5, _ => simp [bsN, bnN, pre]; omega
  | 6, _ => simp [bsN, bnN, pre]; omega
theorem sums (w : Nat → Nat) : ∀ n, n ≤ 7 → mskN w n (2 ^ n) = bsN w n (n + 1) := by
  intro n
  induction n generalizing w with
  | zero => intro _; simp [mskN, zerN, bsN, bnN, pre]
  | succ n ih =>
    intro hn
    rw [msk_s (by omega), bs_s w n (by omega), ih _ (by omega), ih _ (by omega)]
