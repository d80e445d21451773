/-! PURE: policy 0 of the reference -/
def RecM (a : ARec) (b : Nat) (ev : Int32) (rc ea di dm : Nat → Int32) : Prop := ev = nI a.2.1 ∧ RS rc a.1 b ∧ (∀ i, i < 64 → ea i = if a.2.2.1 i = 0 then -1 else nI (a.2.2.1 i)) ∧ (∀ i, i < 64 → di i = a.2.2.2.1 i) ∧ ∀ i, i < 401 → dm i = a.2.2.2.2.1 i
