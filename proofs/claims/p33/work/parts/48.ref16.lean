/-! THE REFERENCE: sums -/
def sumN (F : Fm) (w : Nat) : Nat → Int32
  | 0 => nI 0
  | n + 1 => sumN F w n + F (165 + 6 * n + w)
def ansP (F : Fm) : Nat → Bool := fun k => decide (ansF F (nI k) ≠ none)
section REF16
variable {L : Nat} {xs : Nat → Int32} {f i k r q c j n B b w : Nat} {x y v a z l name flow place : Int32} {s : St} {F G F' : Fm} {Q : Option MV → St → Prop} {p : Nat → Bool}
def serverA (F : Fm) (v w : Int32) : Int32 := if ¬ iN v (cS F) then -1 else if ¬ iN w 6 then -2 else if w.toInt < 3 then F (5 + 3 * nn v + nn w) else if w.toInt = 3 then nI (cntB (childP F v) (cS F)) else if w.toInt = 4 then nI (wayF F (nn v)) else nI (cntB (homeP F v) (cT F))
def routA (F : Fm) (v w : Int32) : Int32 := if ¬ iN v (cR F) then -1 else if ¬ iN w 6 then -2 else F (165 + 6 * nn v + nn w)
def slotA (F : Fm) (v j w : Int32) : Int32 := if ¬ (iN v (cT F) ∧ iN j 3) then -1 else if ¬ iN w 3 then -2 else if F (29 + 17 * nn v + 5 + 4 * nn j) = nI 1 then F (29 + 17 * nn v + 5 + 4 * nn j + 1 + nn w) else -5
end REF16
