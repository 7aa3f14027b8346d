/-! words for the methods -/
def bI (b : Prop) [Decidable b] : Int32 := if b then 1 else 0
