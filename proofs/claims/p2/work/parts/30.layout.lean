/-! The heap's shapes after both constructors; bounds of its numbers; where its references lead. -/
def SHl : List Sh := []
def IVT : List (List (Int × Int)) := []
def RFT : List (List (List Nat)) := []
