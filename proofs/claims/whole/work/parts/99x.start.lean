/-- the heap at the start: all is zero -/
def H00 : Hp := (fun _ _ _ => 0, fun _ _ _ => 0, fun _ _ _ => none)
theorem iv_0 : IV 0 H00 := by
  refine ⟨⟨⟨Nat.zero_le _, rfl, rfl, fun i hi => absurd hi (Nat.not_lt_zero _), fun i _ _ => rfl⟩, fun _ => R00, (0, fun _ => 0, fun _ => 0, fun _ => 0, 0, 0, 0), fun r hr => absurd hr (Nat.not_lt_zero _), ⟨Nat.zero_le _, Nat.zero_le _, ⟨fun z => absurd z (by decide), fun z => absurd z (by decide)⟩, fun f hf => absurd hf (Nat.not_lt_zero _), fun f hf => absurd hf (Nat.not_lt_zero _)⟩, ⟨rfl, rfl, rfl, rfl, fun f hf => absurd hf (Nat.not_lt_zero _)⟩, ⟨rfl, rfl, rfl, rfl, fun f hf => absurd hf (Nat.not_lt_zero _)⟩⟩, fun g k i r h => ?_, fun r _ _ => ⟨rfl, rfl, rfl⟩⟩
  exact nomatch (show (none : Option Nat) = some r from h)
