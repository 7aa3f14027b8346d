/-! THE REFERENCE: calls that change something, on -/
def zeK (F : Fm) (b k : Nat) : Fm := fun i => if b ≤ i ∧ i < b + k then nI 0 else F i
section REF11
variable {L : Nat} {xs : Nat → Int32} {f i k r p q c j n B b : Nat} {x y v a z w l name flow place : Int32} {s : St} {F G F' : Fm} {Q : Option MV → St → Prop}
theorem zeK_0 : zeK F b 0 = F := by
  funext i
  simp only [zeK]
  rw [if_neg (by omega)]
theorem zeK_s : putF (zeK F b k) (b + k) (nI 0) = zeK F b (k + 1) := by
  funext i
  simp only [putF, zeK]
  (repeat' split) <;> first | rfl | omega | (exfalso; omega) | (congr 1; omega)
end REF11
