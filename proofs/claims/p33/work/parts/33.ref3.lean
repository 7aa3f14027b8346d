/-! THE REFERENCE: answers, choices, maps -/
def atB (F : Fm) (k : Nat) (place : Int32) : Nat → Bool
  | 0 => false
  | j + 1 => atB F k place j || (decide (F (29 + 17 * k + 5 + 4 * j) = nI 1) && decide (F (29 + 17 * k + 5 + 4 * j + 1) = place))
section REF3
variable {L : Nat} {xs : Nat → Int32} {f k r p j B : Nat} {x y v a z name flow place : Int32} {s : St} {F : Fm} {Q : Option MV → St → Prop}
theorem ansN_lt : ∀ n b, ansN F name n = some b → b < n
  | 0, b, h => by cases h
  | n + 1, b, h => by
    unfold ansN at h
    split at h
    · cases h; exact Nat.lt_succ_self _
    · exact Nat.lt_succ_of_lt (ansN_lt n b h)
theorem homeF_lt (hw : WF F B) : homeF F a z < 8 := by
  have := homeN_le (F := F) (a := a) (z := z) (cS F - 1)
  have h2 := hw.s2
  unfold homeF
  omega
theorem homeF_ltS (hw : WF F B) : homeF F a z < cS F := by
  have := homeN_le (F := F) (a := a) (z := z) (cS F - 1)
  have h2 := hw.s2
  unfold homeF
  omega
theorem optI_ne {o : Option Nat} (h : ∀ b, o = some b → b < 1000) : optI o (-5) = -5 ↔ o = none := by
  cases o with
  | none => exact ⟨fun _ => rfl, fun _ => rfl⟩
  | some b =>
    refine ⟨fun q => ?_, fun q => by cases q⟩
    have := congrArg Int32.toInt q
    have hb := h b rfl
    have e : (nI b).toInt = (b : Int) := nI_toI (by omega)
    have e2 : ((-5 : Int32)).toInt = -5 := by decide
    simp only [optI] at this
    omega
theorem nI_n5 {b : Nat} (h : b < 1000) : ¬ nI b = -5 := by
  intro q
  have := congrArg Int32.toInt q
  have e : (nI b).toInt = (b : Int) := nI_toI (by omega)
  have e2 : ((-5 : Int32)).toInt = -5 := by decide
  omega
/-! the maps of a router -/
def drK (F : Fm) (r p k : Nat) : Fm := fun i => if i = 165 + 6 * r then F i - nI 1 else if mA r p ≤ i ∧ i < k then F (i + 16) else F i
theorem drK_0 : drK F r p (mA r p) = putF F (165 + 6 * r) (F (165 + 6 * r) - nI 1) := by
  funext i
  unfold drK putF
  by_cases h : i = 165 + 6 * r
  · rw [if_pos h, if_pos h, h]
  · rw [if_neg h, if_neg h, if_neg (by omega)]
theorem drK_s (hk : mA r p ≤ k) (hr : r < 4) : putF (drK F r p k) k (drK F r p k (k + 16)) = drK F r p (k + 1) := by
  have hm : 189 ≤ mA r p := by unfold mA; omega
  funext i
  simp only [drK, putF]
  (repeat' split) <;> first | rfl | omega | (exfalso; omega) | (congr 1; omega)
theorem drK_c (hc : F (165 + 6 * r) = nI (cM F r)) (h1 : 1 ≤ cM F r) (h2 : cM F r ≤ 5) : drK F r p k (165 + 6 * r) = nI (cM F r - 1) := by
  show (if 165 + 6 * r = 165 + 6 * r then F (165 + 6 * r) - nI 1 else _) = _
  rw [if_pos rfl, hc, nI_sub (by omega) h1]
end REF3
