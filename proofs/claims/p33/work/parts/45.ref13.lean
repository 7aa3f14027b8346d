/-! THE REFERENCE: send, way, answer, undo, save, restore -/
section REF13
variable {L : Nat} {xs : Nat → Int32} {f i k r p q c j n B b : Nat} {x y v a z w l name flow place : Int32} {s : St} {F G F' : Fm} {Q : Option MV → St → Prop}
def answF (F : Fm) (name : Int32) : Int32 := if iN name 256 then optI (ansF F name) (-5) else -2
def wayA (F : Fm) (name which : Int32) : Int32 := if ¬ (iN name 256 ∧ iN which 2) then -2 else if which = nI 0 then nI (homeF F name (nI 1)) else nI (wayF F (homeF F name (nI 1)))
end REF13
