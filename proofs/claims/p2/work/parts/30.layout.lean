/-! The heap's shapes after both constructors; bounds of its numbers; where its references lead. -/
def SHl : List Sh := []
def IVT : List (List (Int × Int)) := []
def RFT : List (List (List Nat)) := []
/-- an invariant beside the bounds, and the places that it speaks of -/
abbrev JV : Type := (Hp → Prop) × List (Nat × Nat)
