/-! THE REFERENCE: copiesOf, site, endingNext, total -/
def copP (F : Fm) (r : Nat) (v : Int32) : Nat → Bool := fun p => decide (F (mA r p) = v)
def copN (F : Fm) (v : Int32) : Nat → Nat
  | 0 => 0
  | r + 1 => copN F v r + cntB (copP F r v) (cM F r)
def siteA (F : Fm) (v w : Int32) : Int32 := if ¬ iN v (cT F) then -1 else if ¬ iN w 8 then -2 else if w.toInt < 5 then F (29 + 17 * nn v + nn w) else if w.toInt = 5 then nI (homeF F (F (29 + 17 * nn v)) (F (29 + 17 * nn v + 1))) else if w.toInt = 6 then bI (upF F (nn v)) else nI (copN F v (cR F))
def firN (p : Nat → Bool) : Nat → Nat → Option Nat
  | 0, _ => none
  | n + 1, k => if p k = true then some k else firN p n (k + 1)
def ahdP (F : Fm) (m : Nat) : Nat → Bool := fun k => decide (aheadF F k m)
def nxtP (F : Fm) (v : Int32) : Nat → Bool := fun k => decide ((F 0).toInt < (F (29 + 17 * k + 4)).toInt ∧ nI (cntB (ahdP F k) (cT F)) = v)
def nextA (F : Fm) (v : Int32) : Int32 := if v.toInt < 0 then -2 else optI (firN (nxtP F v) (cT F) 0) (-5)
section REF21
variable {L : Nat} {xs : Nat → Int32} {f i k r q c j n B b w m : Nat} {x y v a z l name flow place : Int32} {s : St} {F G F' : Fm} {Q : Option MV → St → Prop}
theorem firN_1 {p : Nat → Bool} (h : p k = true) : firN p (n + 1) k = some k := if_pos h
theorem firN_0 {p : Nat → Bool} (h : ¬ p k = true) : firN p (n + 1) k = firN p n (k + 1) := if_neg h
end REF21
