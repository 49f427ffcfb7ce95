/-! the start -/
theorem inv0 : Inv (tZ, tZ, tZ, (0, 0), (fun _ => tZ), lZ, lZ, (fun _ => 0), 0) (tZ, 0, lZ, qZ, (0, 0, none), 0, 0, lZ, 0, (fun _ => 0), (fun _ => 0), (fun _ => 0), (fun _ => 0), (fun _ => 0), (fun _ => 0), (fun _ => 0)) := by
  have r0 : RP tZ ((fun _ => 0), (fun _ => 0), (fun _ => 0), (fun _ => 0), 0, 0, 0, 0, 0) := ⟨fun i _ => ⟨rfl, rfl, rfl, rfl⟩, rfl, rfl, rfl, rfl, rfl⟩
  refine ⟨((fun _ => 0), (fun _ => 0), (fun _ => 0), (fun _ => 0), 0, 0, 0, 0, 0), r0, r0, ?_, Nat.zero_le _, fun i _ => rfl, ⟨0, by omega, rfl, rfl, fun i hi => absurd hi (by omega)⟩, ⟨0, by omega, rfl, rfl, fun i hi => absurd hi (by omega)⟩, Or.inl ⟨rfl, rfl⟩, ⟨0, 0, by omega, by omega, rfl, rfl, rfl, fun j hj => absurd hj (by omega)⟩⟩
  exact ⟨by decide, fun i _ => ⟨(by decide : 0 < 6), (by decide : 0 < 10), (by decide : 0 < 100), Nat.zero_le _⟩, fun i (hi : i < 0) => absurd hi (Nat.not_lt_zero _), by decide, by decide, by decide⟩
