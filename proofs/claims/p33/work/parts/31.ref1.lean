/-! THE REFERENCE'S SMALL METHODS -/
theorem bI_c {a b : Prop} [Decidable a] [Decidable b] {Q : Option MV → St → Prop} {s : St} (h : Q (some (.inl (bI a))) s) (e : b ↔ a) : Q (some (.inl (bI b))) s := by
  have : bI b = bI a := by
    unfold bI
    by_cases h1 : a
    · rw [if_pos h1, if_pos (e.mpr h1)]
    · rw [if_neg h1, if_neg (fun q => h1 (e.mp q))]
  rwa [this]
/-- a counting loop: from the head's state at k to that at k + 1, and out at n -/
theorem loopN {P : Nat → Prop} (n : Nat) (step : ∀ k, k < n → P (k + 1) → P k) (last : P n) (k : Nat) (hk : k ≤ n) : P k := by
  have : ∀ j k, k + j = n → P k := by
    intro j
    induction j with
    | zero => intro k h; have : k = n := by omega
              rw [this]; exact last
    | succ j ih => intro k h; exact step k (by omega) (ih (k + 1) (by omega))
  exact this (n - k) k (by omega)
section REF1
variable {L : Nat} {xs : Nat → Int32} {f k r p j B : Nat} {x y v a z : Int32} {s : St} {F : Fm} {Q : Option MV → St → Prop}
theorem homeN_le : ∀ n, homeN F a z n ≤ n
  | 0 => Nat.le_refl _
  | n + 1 => by
    unfold homeN
    split
    · exact Nat.le_refl _
    · exact Nat.le_succ_of_le (homeN_le n)
end REF1
