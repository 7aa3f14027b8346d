/-! THE REFERENCE: undo, save, restore -/
section REF14
variable {L : Nat} {xs : Nat → Int32} {f i k r p q c j n B b : Nat} {x y v a z w l name flow place : Int32} {s : St} {F G F' : Fm} {Q : Option MV → St → Prop}
theorem setNK_22 : putV (setN (setK s G) F) 22 0 i x = setN (setK (putV s 22 0 i x) G) F := by
  unfold setN setK putV
  apply Prod.ext
  · funext a b d
    show (if a = 22 ∧ b = 0 ∧ d = i then x else if a = 20 ∧ b = 0 then F d else if a = 21 ∧ b = 0 then G d else s.1 a b d) = (if a = 20 ∧ b = 0 then F d else if a = 21 ∧ b = 0 then G d else if a = 22 ∧ b = 0 ∧ d = i then x else s.1 a b d)
    by_cases h1 : a = 22
    · subst h1; simp
    · simp [h1]
  · rfl
theorem setNK_22v : (setN (setK s G) F).1 22 0 i = s.1 22 0 i := by rw [setN_o (by decide), setK_o (by decide)]
theorem alen22 : alen 22 = 2 := rfl
theorem rowF (G : Fm) (c : Nat) : (fun k => G (509 * c + k)) = fun k => G (509 * c + k) := rfl
end REF14
