theorem zer_s (x j : Nat) : zerN x (j + 1) = if bt2 x j = 0 then zerN x j + 1 else zerN x j := rfl
theorem zer_le (x : Nat) : ∀ j, zerN x j ≤ j
  | 0 => Nat.le_refl _
  | j + 1 => by
    have := zer_le x j
    rw [zer_s]
    split <;> omega
/-- after j hours of which some stood still -/
def mixA (a : AP) (x j : Nat) : AP := setO (flowsA a (zerN x j)) (aO a + j)
theorem GP.mix {a : AP} (g : GP a) (x j : Nat) : GP (mixA a x j) := (g.flows _).setO
theorem mix_0 {a : AP} {x j : Nat} (h : bt2 x j = 0) : tickA (mixA a x j) = mixA a x (j + 1) := by
  unfold mixA tickA
  rw [zer_s, if_pos h, flow_setO]
  rfl
theorem mix_1 {a : AP} {x j : Nat} (h : bt2 x j ≠ 0) : setO (mixA a x j) (aO (mixA a x j) + 1) = mixA a x (j + 1) := by
  unfold mixA
  rw [zer_s, if_neg h]
  rfl
