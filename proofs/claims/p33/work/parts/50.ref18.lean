/-! THE REFERENCE: map, isAhead -/
def mapA (F : Fm) (v x w : Int32) : Int32 := if ¬ (iN v (cR F) ∧ iN x (cM F (nn v))) then -1 else if ¬ iN w 5 then -2 else if w.toInt < 4 then F (mA (nn v) (nn x) + nn w) else if (F 0).toInt < (F (mA (nn v) (nn x) + 2)).toInt then nI 1 else nI 0
section REF18
variable {L : Nat} {xs : Nat → Int32} {f i k r q c j n B b w m : Nat} {x y v a z l name flow place : Int32} {s : St} {F G F' : Fm} {Q : Option MV → St → Prop} {p : Nat → Bool}
abbrev aheadF (F : Fm) (k m : Nat) : Prop := (F 0).toInt < (F (29 + 17 * k + 4)).toInt ∧ ((F (29 + 17 * k + 4)).toInt < (F (29 + 17 * m + 4)).toInt ∨ (F (29 + 17 * k + 4) = F (29 + 17 * m + 4) ∧ k < m))
end REF18
