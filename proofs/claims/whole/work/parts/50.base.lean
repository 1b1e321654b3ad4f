/-! ===== LEVEL 3: base ===== -/
/-- an end with a post -/
def jE (o : Option jm_R) (Q : (Option Value ⊕ Nat) → jm_H → Prop) : Prop := ∃ v h, o = some (v, h) ∧ Q v h
