-- the relation of the two states (being written)
def Inv (n : Nat) (S : St) : Prop := n ≤ n ∧ S = S
theorem all_ok : ALL Inv := sorry
theorem inv_stay : ∀ n S, Inv n S → Inv (n + 1) S := sorry
theorem inv_0 : Inv 0 S0 := sorry
