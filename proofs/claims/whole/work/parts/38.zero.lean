/-! THE RELATION at the start -/
def S0 : aS := fun t j f => if t = 8 ∧ f = 0 then nI (j / 4) else if t = 8 ∧ f = 1 then nI (j % 4) else 0
theorem S0_z {t j f : Nat} (h : ¬ (t = 8 ∧ f ≤ 1)) : S0 t j f = 0 := by
  unfold S0
  rw [if_neg (by omega), if_neg (by omega)]
theorem inv_zero : Inv 0 S0 S0 := by
  have z : ∀ t j f, ¬ (t = 8 ∧ f ≤ 1) → S0 t j f = 0 := fun t j f h => S0_z h
  refine ⟨⟨0, ⟨z 2 0 1 (by omega), z 14 0 21 (by omega), by omega, fun i hi => by omega⟩, fun i hi => by omega⟩, fun q hq => ⟨⟨if_pos ⟨rfl, rfl⟩, ?_, ?_, ?_, ?_, ?_⟩, 0, by omega, z 8 q 2 (by omega), z 17 0 q (by omega), fun e => by omega, fun e => by omega, fun e => by omega, fun e => by omega⟩, fun v hv => ⟨?_, 0, by omega, z 28 0 v (by omega), z 9 v 2 (by omega), fun _ => z 9 v 0 (by omega), fun i hi => by omega⟩, fun r hr => ⟨?_, ?_, ⟨0, by omega, z 11 r 2 (by omega), z 32 0 r (by omega)⟩, fun i hi => ⟨?_, ?_⟩⟩, fun c hc => ⟨0, by omega, z 16 0 c (by omega), z 7 0 c (by omega)⟩, fun a ha => ⟨Or.inl (z 15 0 a (by omega)), ?_⟩⟩
  · unfold S0
    rw [if_neg (by omega), if_pos ⟨rfl, rfl⟩]
  · rw [z 8 q 3 (by omega), z 18 0 q (by omega)]
  · rw [z 8 q 6 (by omega), z 19 0 q (by omega)]
  · rw [z 8 q 8 (by omega), z 20 0 q (by omega)]
  · rw [z 8 q 9 (by omega), z 21 0 q (by omega)]
  · rw [z 9 v 1 (by omega), z 29 0 v (by omega)]
  · rw [z 11 r 0 (by omega), z 30 0 r (by omega)]
  · rw [z 11 r 1 (by omega), z 31 0 r (by omega)]
  · rw [z 12 r i (by omega), z 33 0 _ (by omega)]
  · rw [z 13 r i (by omega), z 34 0 _ (by omega)]
  · rw [z 1 0 5 (by omega), z 15 0 a (by omega)]
    exact ⟨fun _ => rfl, fun _ => bt_zero a ha⟩
