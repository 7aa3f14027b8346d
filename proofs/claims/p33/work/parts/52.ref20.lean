/-! THE REFERENCE: share -/
def shaP (F : Fm) (k : Nat) (x : Int32) : Nat → Bool := fun j => decide (choF F (29 + 17 * k + 5) (nI j) = x)
def shareA (F : Fm) (v x : Int32) : Int32 := if ¬ iN v (cT F) then -1 else if ¬ iN x 32 then -2 else nI (cntB (shaP F (nn v) x) 100)
section REF20
variable {L : Nat} {xs : Nat → Int32} {f i k r q c j n B b w m : Nat} {x y v a z l name flow place : Int32} {s : St} {F G F' : Fm} {Q : Option MV → St → Prop}
end REF20
