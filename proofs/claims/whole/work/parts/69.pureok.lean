def zInv : List (Nat × Nat) → zM → Prop := fun _ _ => True
theorem pure_ok : zPure zInv := sorry
