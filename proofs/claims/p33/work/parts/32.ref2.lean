/-! THE REFERENCE: ways, sites, answers -/
def upB (F : Fm) (k : Nat) : Nat → Bool
  | 0 => false
  | j + 1 => upB F k j || decide (F (29 + 17 * k + (5 + 4 * j)) = nI 1)
section REF2
variable {L : Nat} {xs : Nat → Int32} {f k r p j B : Nat} {x y v a z name flow : Int32} {s : St} {F : Fm} {Q : Option MV → St → Prop}
theorem wayN_eq {n : Nat} (hp : ∀ k, 0 < k → k < n → ∃ p : Nat, p < k ∧ F (5 + 3 * k) = nI p) (hn : n ≤ 8) : ∀ m m' k, k < n → k < m → k < m' → wayN F m k = wayN F m' k := by
  intro m
  induction m with
  | zero => intro m' k _ h; omega
  | succ m ih =>
    intro m' k hk hm hm'
    obtain ⟨m', rfl⟩ : ∃ q, m' = q + 1 := ⟨m' - 1, by omega⟩
    unfold wayN
    by_cases h0 : k = 0
    · rw [if_pos h0, if_pos h0]
    · rw [if_neg h0, if_neg h0]
      obtain ⟨p, h1, h2⟩ := hp k (by omega) hk
      have e : nn (F (5 + 3 * k)) = p := by rw [h2]; exact nI_cl (by omega)
      rw [e, ih m' p (by omega) (by omega) (by omega)]
theorem wayF_0 : wayF F 0 = 1 := by unfold wayF wayN; rw [if_pos rfl]
theorem WF.par (hw : WF F B) : ∀ k, 0 < k → k < cS F → ∃ p : Nat, p < k ∧ F (5 + 3 * k) = nI p := fun k h1 h2 => (hw.server h2).2.2 h1
theorem wayF_s (hw : WF F B) {p : Nat} (h0 : 0 < k) (hk : k < cS F) (hp : F (5 + 3 * k) = nI p) (hpk : p < k) : wayF F k = wayF F p + 1 := by
  have h8 := hw.s2
  unfold wayF
  rw [wayN_eq hw.par h8.2 8 (8 + 1) k hk (by omega) (by omega)]
  have e : nn (F (5 + 3 * k)) = p := by rw [hp]; exact nI_cl (by omega)
  show (if k = 0 then 1 else wayN F 8 (nn (F (5 + 3 * k))) + 1) = _
  rw [if_neg (by omega), e]
theorem wayF_le (hw : WF F B) : ∀ k, k < cS F → 1 ≤ wayF F k ∧ wayF F k ≤ k + 1 := by
  intro k
  induction k using Nat.strongRecOn with
  | ind k ih =>
    intro hk
    by_cases h0 : k = 0
    · subst h0; rw [wayF_0]; omega
    · obtain ⟨p, h1, h2⟩ := hw.par k (by omega) hk
      rw [wayF_s hw (by omega) hk h2 h1]
      have := ih p h1 (by omega)
      omega
theorem upB_3 : upB F k 3 = true ↔ (F (29 + 17 * k + 5) = nI 1 ∨ F (29 + 17 * k + 9) = nI 1 ∨ F (29 + 17 * k + 13) = nI 1) := by
  simp only [upB, Bool.or_eq_true, decide_eq_true_eq, Bool.false_eq_true, false_or, or_assoc, ← Nat.add_assoc, Nat.mul_zero, Nat.add_zero, Nat.mul_one]
end REF2
