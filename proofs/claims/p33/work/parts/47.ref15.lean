/-! THE REFERENCE: counts -/
def cntB (p : Nat → Bool) : Nat → Nat
  | 0 => 0
  | n + 1 => cntB p n + (if p n = true then 1 else 0)
section REF15
variable {L : Nat} {xs : Nat → Int32} {f i k r q c j n B b : Nat} {x y v a z w l name flow place : Int32} {s : St} {F G F' : Fm} {Q : Option MV → St → Prop} {p : Nat → Bool}
theorem cntB_1 (h : p n = true) : cntB p (n + 1) = cntB p n + 1 := by show _ + (if _ then _ else _) = _; rw [if_pos h]
theorem cntB_0 (h : ¬ p n = true) : cntB p (n + 1) = cntB p n := by show _ + (if _ then _ else _) = _; rw [if_neg h]; rfl
theorem cntB_le : ∀ n, cntB p n ≤ n
  | 0 => Nat.le_refl _
  | n + 1 => by
    have := cntB_le n
    by_cases h : p n = true
    · rw [cntB_1 h]; omega
    · rw [cntB_0 h]; omega
def childP (F : Fm) (v : Int32) : Nat → Bool := fun k => decide (1 ≤ k ∧ F (5 + 3 * k) = v)
def upP (F : Fm) : Nat → Bool := fun k => decide (upF F k)
def homeP (F : Fm) (v : Int32) : Nat → Bool := fun k => decide (nI (homeF F (F (29 + 17 * k)) (F (29 + 17 * k + 1))) = v)
end REF15
