theorem rel0 : Rel s0 t0 := by
  have z : ∀ f i, f ≠ 0 → t0 f i = 0 := fun f i hf => by unfold t0; rw [if_neg (fun q => hf q.1)]
  have z0 : ∀ i, i ≠ 0 → t0 0 i = 0 := fun i hi => by unfold t0; rw [if_neg (fun q => hi q.2)]
  have y : ∀ f i, f ≠ 0 → f ≠ 4 → f ≠ 14 → s0.1 f i = 0 := fun f i a b c => by
    show (if f = 0 then (255 : Int32) else if f = 4 then -1 else if f = 14 then -1 else 0) = 0
    rw [if_neg a, if_neg b, if_neg c]
  have vm : vM (t0 0) = 0 := by unfold vM; rw [z0 1 (by omega)]; exact tc0
  refine ⟨⟨⟨⟨255, by omega, by omega, rfl⟩, ⟨0, by omega, z0 1 (by omega)⟩, fun m hm => absurd hm (by rw [vm]; exact Nat.not_lt_zero m)⟩, ⟨rfl, ?_, fun m hm => absurd hm (by rw [vm]; exact Nat.not_lt_zero m)⟩, ?_, ⟨0, by omega, y 16 0 (by omega) (by omega) (by omega), z 10 0 (by omega), fun i hi => absurd hi (Nat.not_lt_zero i)⟩, ⟨0, by omega, y 2 0 (by omega) (by omega) (by omega), z 11 0 (by omega), fun i hi => absurd hi (Nat.not_lt_zero i)⟩, ⟨0, 0, by omega, by omega, y 30 0 (by omega) (by omega) (by omega), y 29 0 (by omega) (by omega) (by omega), z 2 0 (by omega), fun i hi => absurd hi (Nat.not_lt_zero i)⟩⟩, Or.inl rfl⟩
  · rw [z0 1 (by omega)]
    exact y 1 0 (by omega) (by omega) (by omega)
  · rw [y 3 0 (by omega) (by omega) (by omega), z 3 0 (by omega)]
