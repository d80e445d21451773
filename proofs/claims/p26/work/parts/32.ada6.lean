/-! PURE: policy 2 of the reference, a touch -/
def AdaM (a : AAda) (b : Nat) (tg : Int32) (ls ss : Nat → Int32) : Prop := tg = nI a.2.1 ∧ AS ls ss a.1 b
