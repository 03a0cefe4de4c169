/-! The heap's shapes after both constructors; bounds of its numbers; where its references lead. -/
def SHl : List Sh := []
def IVT : List (List (Int × Int)) := []
def RFT : List (List (List Nat)) := []
/-- the invariant of the texts that were read, and the places that it speaks of -/
def KI (_ : Hp) : Prop := True
def SUP : List (Nat × Nat) := []
