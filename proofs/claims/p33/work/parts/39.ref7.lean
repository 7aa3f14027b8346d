/-! THE REFERENCE: asks, takes, sends -/
def flK (F : Fm) (r k j : Nat) : Fm := fun i => if i = 165 + 6 * r then F i + nI 1 else if i = mA r 0 then nI k else if i = mA r 0 + 1 then F (29 + 17 * k + 3) else if i = mA r 0 + 2 then F 0 + F 4 else if i = mA r 0 + 3 then nI 0 else if mA r 0 + 4 ≤ i ∧ i < mA r 0 + 4 + j then F (29 + 17 * k + 5 + (i - (mA r 0 + 4))) else F i
section REF7
variable {L : Nat} {xs : Nat → Int32} {f i k r p q c j n B b : Nat} {x y v a z name flow place : Int32} {s : St} {F G : Fm} {Q : Option MV → St → Prop}
theorem flK_0 (hr : r < 4) (hk : k < 8) : putF (putF (putF (putF (putF F (165 + 6 * r) (F (165 + 6 * r) + nI 1)) (mA r 0) (nI k)) (mA r 0 + 1) (F (29 + 17 * k + 3))) (mA r 0 + 2) (F 0 + F 4)) (mA r 0 + 3) (nI 0) = flK F r k 0 := by
  have hm := mA_eq r 0
  funext i
  simp only [putF, flK]
  (repeat' split) <;> first | rfl | omega | (exfalso; omega) | (subst_vars; rfl)
theorem flK_s (hr : r < 4) (hk : k < 8) (hj : j < 12) : putF (flK F r k j) (mA r 0 + 4 + j) (flK F r k j (29 + 17 * k + (5 + j))) = flK F r k (j + 1) := by
  have hm := mA_eq r 0
  have e : flK F r k j (29 + 17 * k + (5 + j)) = F (29 + 17 * k + 5 + j) := by
    simp only [flK]
    rw [if_neg (by omega), if_neg (by omega), if_neg (by omega), if_neg (by omega), if_neg (by omega), if_neg (by omega)]
    congr 1
    omega
  rw [e]
  funext i
  simp only [putF, flK]
  (repeat' split) <;> first | rfl | omega | (exfalso; omega) | (congr 1; omega)
theorem flK_e : flK F r k 12 = fillF F r k := by
  funext i
  simp only [flK, fillF]
theorem ansF_lt (h : ansF F name = some b) : b < cT F := ansN_lt _ _ h
theorem takeN_lt : ∀ n b, takeN F r name n = some b → b < n
  | 0, b, h => by cases h
  | n + 1, b, h => by
    unfold takeN at h
    split at h
    · cases h; exact Nat.lt_succ_self _
    · exact Nat.lt_succ_of_lt (takeN_lt n b h)
theorem end_ok : ∀ n F, n ≤ cM F r → WF F B → r < cR F → WF (endF r n F) B ∧ (∀ i, i < 165 → endF r n F i = F i) ∧ cM (endF r n F) r ≤ cM F r := by
  intro n
  induction n with
  | zero => intro F _ hw hr; exact ⟨hw, fun _ _ => rfl, Nat.le_refl _⟩
  | succ n ih =>
    intro F hn hw hr
    have h4 := hw.r2
    unfold endF
    by_cases h : (F (mA r n + 2)).toInt ≤ (F 0).toInt
    · rw [if_pos h]
      have w := WF_drop hw hr (p := n) (by omega)
      obtain ⟨e1, e2⟩ := drops_c (p := n) (hw.router hr) (by omega)
      have e3 : cR (dropsF F r n) = cR F := by unfold cR; rw [drops_lo (by omega)]
      obtain ⟨g1, g2, g3⟩ := ih (dropsF F r n) (by omega) w (by omega)
      exact ⟨g1, fun i hi => by rw [g2 i hi, drops_lo hi], by omega⟩
    · rw [if_neg h]
      exact ih F (by omega) hw hr
def tkS (F : Fm) (r : Nat) (o : Option Nat) : Int32 := match o with
  | none => nI 257
  | some b => F (29 + 17 * nn (F (mA r b)) + 1)
theorem takeN_s (n : Nat) : takeN F r name (n + 1) = if hasF F (nn (F (mA r n))) name ∧ (F (29 + 17 * nn (F (mA r n)) + 1)).toInt < (tkS F r (takeN F r name n)).toInt then some n else takeN F r name n := by
  rw [takeN]
  unfold tkB tkS
  cases takeN F r name n with
  | none => simp only [decide_eq_true_eq]; rfl
  | some b => simp only [decide_eq_true_eq]
end REF7
