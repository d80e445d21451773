/-- the claim's own witness, printed with the Statement, is such a start: so the Statement is false -/
theorem p26_false : ¬ (Claimed_1_1 ∧ Claimed_1_2) := fun h =>
  p26_not (b := 0) rfl start1.atStart (launch0.hasRoom_least _ room_2 (by decide +kernel) (by decide +kernel) (by decide +kernel) (by decide +kernel) (by decide +kernel) (by decide +kernel))
    ⟨rfl, ⟨_, by rfl, by rfl, ⟨fun k h => (by cases h), _, rfl, _, rfl⟩, by decide +kernel⟩, by decide +kernel, start1.atStart.2.2.2.2.2.2.2.2.2.2.2.2⟩ h.1
