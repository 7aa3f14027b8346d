/-! choices: which slot is chosen; letters end at a place -/
def ctr (F : Fm) (b : Nat) (lo : Int32) (k : Nat) : Int := if F (b + 4 * k) = nI 1 ∧ F (b + 4 * k + 2) = lo then (F (b + 4 * k + 3)).toInt else 0
def ctS (F : Fm) (b : Nat) (lo : Int32) : Nat → Int
  | 0 => 0
  | k + 1 => ctS F b lo k + ctr F b lo k
section REF22
variable {i k r p q c j n B b : Nat} {x y v a z lo left name flow place : Int32} {F G : Fm}
theorem ctr_nn (hs : slotOk F (b + 4 * k)) : 0 ≤ ctr F b lo k ∧ ctr F b lo k ≤ 9 := by
  unfold ctr
  split
  · rename_i h
    have := hs.2 h.1
    omega
  · omega
theorem ctS_zero : ∀ k, (∀ j, j < k → F (b + 4 * j) = nI 1 → F (b + 4 * j + 2) ≠ lo) → ctS F b lo k = 0
  | 0, _ => rfl
  | k + 1, h => by
    show ctS F b lo k + ctr F b lo k = 0
    rw [ctS_zero k (fun j hj => h j (by omega))]
    unfold ctr
    rw [if_neg (fun q => h k (by omega) q.1 q.2)]
    rfl
theorem ctS_le (hs : ∀ j, j < 3 → slotOk F (b + 4 * j)) : ∀ k, k ≤ 3 → 0 ≤ ctS F b lo k ∧ ctS F b lo k ≤ 9 * (k : Int)
  | 0, _ => by
    show 0 ≤ (0 : Int) ∧ (0 : Int) ≤ _
    omega
  | k + 1, h => by
    have h1 := ctS_le hs k (by omega)
    have h2 := ctr_nn (lo := lo) (hs k (by omega))
    show 0 ≤ ctS F b lo k + ctr F b lo k ∧ ctS F b lo k + ctr F b lo k ≤ _
    omega
theorem nI01 : ¬ nI 0 = nI 1 := by decide
set_option maxHeartbeats 4000000 in
set_option maxRecDepth 100000 in
theorem ls_ok (hs : ∀ j, j < 3 → slotOk F (b + 4 * j)) : ∀ k, k ≤ 3 → ((∀ j, j < k → F (b + 4 * j) = nI 0) ∧ lsN F b k = (nI 10, nI 0)) ∨ ((0 ≤ (lsN F b k).1.toInt ∧ (lsN F b k).1.toInt < 10) ∧ (∃ j, j < k ∧ F (b + 4 * j) = nI 1) ∧ (∀ j, j < k → F (b + 4 * j) = nI 1 → (lsN F b k).1.toInt ≤ (F (b + 4 * j + 2)).toInt) ∧ (lsN F b k).2.toInt = ctS F b (lsN F b k).1 k ∧ 1 ≤ (lsN F b k).2.toInt) := by
  intro k
  induction k with
  | zero => intro _; exact Or.inl ⟨fun j hj => absurd hj (by omega), rfl⟩
  | succ k ih =>
    intro hk
    have hsk := hs k (by omega)
    have ih := ih (by omega)
    have hle := ctS_le (lo := (lsN F b k).1) hs k (by omega)
    by_cases hf : F (b + 4 * k) = nI 1
    · have hb := hsk.2 hf
      by_cases hp : (F (b + 4 * k + 2)).toInt ≤ (lsN F b k).1.toInt
      · by_cases hl : (F (b + 4 * k + 2)).toInt < (lsN F b k).1.toInt
        · have e : lsN F b (k + 1) = (F (b + 4 * k + 2), F (b + 4 * k + 3)) := by
            rw [lsN, if_pos ⟨hf, hp⟩, if_pos hl]
          have hall : ∀ j, j < k → F (b + 4 * j) = nI 1 → (F (b + 4 * k + 2)).toInt < (F (b + 4 * j + 2)).toInt := by
            intro j hj hfj
            rcases ih with ih | ih
            · exact absurd ((ih.1 j hj).symm.trans hfj) nI01
            · have := ih.2.2.1 j hj hfj
              omega
          refine Or.inr ⟨by rw [e]; exact hb.2.1, ⟨k, by omega, hf⟩, fun j hj hfj => ?_, ?_, by rw [e]; exact hb.2.2.1⟩
          · rw [e]
            by_cases ejk : j = k
            · subst ejk; exact Int.le_refl _
            · exact Int.le_of_lt (hall j (by omega) hfj)
          · rw [e]
            dsimp only
            show _ = ctS F b (F (b + 4 * k + 2)) k + ctr F b (F (b + 4 * k + 2)) k
            rw [ctS_zero k (fun j hj hfj q => by have := hall j hj hfj; rw [q] at this; omega)]
            unfold ctr
            rw [if_pos ⟨hf, rfl⟩]
            omega
        · have e : lsN F b (k + 1) = (F (b + 4 * k + 2), (lsN F b k).2 + F (b + 4 * k + 3)) := by
            rw [lsN, if_pos ⟨hf, hp⟩, if_neg hl]
          have e2 : F (b + 4 * k + 2) = (lsN F b k).1 := Int32.toInt_inj.mp (by omega)
          rcases ih with ih | ih
          · have e3 : (lsN F b k).1 = nI 10 := by rw [ih.2]
            rw [e3] at hl
            have : (nI 10).toInt = 10 := by decide
            omega
          · have hadd : ((lsN F b k).2 + F (b + 4 * k + 3)).toInt = (lsN F b k).2.toInt + (F (b + 4 * k + 3)).toInt := by
              rw [Int32.toInt_add]
              apply Int.bmod_eq_of_le <;> omega
            refine Or.inr ⟨by rw [e]; exact hb.2.1, ⟨k, by omega, hf⟩, fun j hj hfj => ?_, ?_, ?_⟩
            · rw [e, e2]
              by_cases ejk : j = k
              · subst ejk
                show (lsN F b j).1.toInt ≤ _
                omega
              · exact ih.2.2.1 j (by omega) hfj
            · rw [e, e2]
              show _ = ctS F b (lsN F b k).1 k + ctr F b (lsN F b k).1 k
              unfold ctr
              rw [if_pos ⟨hf, e2⟩]
              have := ih.2.2.2.1
              show ((lsN F b k).2 + F (b + 4 * k + 3)).toInt = _
              omega
            · rw [e]
              have := ih.2.2.2.2
              show 1 ≤ ((lsN F b k).2 + F (b + 4 * k + 3)).toInt
              omega
      · have e : lsN F b (k + 1) = lsN F b k := by
          rw [lsN, if_neg (fun q => hp q.2)]
        rcases ih with ih | ih
        · exfalso
          have e3 : (lsN F b k).1 = nI 10 := by rw [ih.2]
          rw [e3] at hp
          have : (nI 10).toInt = 10 := by decide
          have hb2 := hb.2.1
          omega
        · refine Or.inr ⟨by rw [e]; exact ih.1, ⟨k, by omega, hf⟩, fun j hj hfj => ?_, ?_, by rw [e]; exact ih.2.2.2.2⟩
          · rw [e]
            by_cases ejk : j = k
            · subst ejk; omega
            · exact ih.2.2.1 j (by omega) hfj
          · rw [e]
            show _ = ctS F b (lsN F b k).1 k + ctr F b (lsN F b k).1 k
            unfold ctr
            rw [if_neg (fun q => by have := q.2; rw [this] at hp; omega)]
            have := ih.2.2.2.1
            omega
    · have h0 : F (b + 4 * k) = nI 0 := by
        rcases hsk.1 with h | h
        · exact h
        · exact absurd h hf
      have e : lsN F b (k + 1) = lsN F b k := by
        rw [lsN, if_neg (fun q => hf q.1)]
      rcases ih with ih | ih
      · left
        refine ⟨fun j hj => ?_, by rw [e]; exact ih.2⟩
        by_cases ejk : j = k
        · subst ejk; exact h0
        · exact ih.1 j (by omega)
      · obtain ⟨j0, g1, g2⟩ := ih.2.1
        refine Or.inr ⟨by rw [e]; exact ih.1, ⟨j0, by omega, g2⟩, fun j hj hfj => ?_, ?_, by rw [e]; exact ih.2.2.2.2⟩
        · rw [e]
          by_cases ejk : j = k
          · subst ejk; exact absurd hfj hf
          · exact ih.2.2.1 j (by omega) hfj
        · rw [e]
          show _ = ctS F b (lsN F b k).1 k + ctr F b (lsN F b k).1 k
          unfold ctr
          rw [if_neg (fun q => hf q.1)]
          have := ih.2.2.2.1
          omega
set_option maxHeartbeats 4000000 in
set_option maxRecDepth 100000 in
theorem rem_ok (ha : 0 ≤ a.toInt) (hz : 1 ≤ z.toInt) : (a - a / z * z).toInt = a.toInt % z.toInt := by
  have h1 := a.toInt_lt
  have h2 := z.toInt_lt
  have e1 : (a / z).toInt = a.toInt / z.toInt := by
    rw [Int32.toInt_div, Int.tdiv_eq_ediv_of_nonneg ha]
    have g1 : 0 ≤ a.toInt / z.toInt := Int.ediv_nonneg ha (by omega)
    have g2 : a.toInt / z.toInt ≤ a.toInt := Int.ediv_le_self _ ha
    apply Int.bmod_eq_of_le <;> omega
  have g3 : 0 ≤ a.toInt % z.toInt := Int.emod_nonneg _ (by omega)
  have g4 : z.toInt * (a.toInt / z.toInt) + a.toInt % z.toInt = a.toInt := Int.mul_ediv_add_emod _ _
  have g5 : 0 ≤ z.toInt * (a.toInt / z.toInt) := Int.mul_nonneg (by omega) (Int.ediv_nonneg ha (by omega))
  have e2 : (a / z * z).toInt = z.toInt * (a.toInt / z.toInt) := by
    rw [Int32.toInt_mul, e1, Int.mul_comm]
    apply Int.bmod_eq_of_le <;> omega
  rw [Int32.toInt_sub, e2]
  have e3 : a.toInt - z.toInt * (a.toInt / z.toInt) = a.toInt % z.toInt := by omega
  rw [e3]
  apply Int.bmod_eq_of_le <;> omega
theorem cho_at (hs : ∀ j, j < 3 → slotOk F (b + 4 * j)) : ∀ n k left, k + n = 3 → 0 ≤ left.toInt → left.toInt < ctS F b lo 3 - ctS F b lo k → ∃ j, j < 3 ∧ F (b + 4 * j) = nI 1 ∧ choN F b lo n k left = F (b + 4 * j + 1) := by
  intro n
  induction n with
  | zero =>
    intro k left hk h0 h1
    have : k = 3 := by omega
    subst this
    omega
  | succ n ih =>
    intro k left hk h0 h1
    have hsk := hs k (by omega)
    have hle := ctS_le (lo := lo) hs 3 (by omega)
    have hle2 := ctS_le (lo := lo) hs k (by omega)
    have e1 : ctS F b lo (k + 1) = ctS F b lo k + ctr F b lo k := rfl
    unfold choN
    by_cases hc : F (b + 4 * k) = nI 1 ∧ F (b + 4 * k + 2) = lo
    · have e2 : ctr F b lo k = (F (b + 4 * k + 3)).toInt := if_pos hc
      have hb := hsk.2 hc.1
      have hsub : (left - F (b + 4 * k + 3)).toInt = left.toInt - (F (b + 4 * k + 3)).toInt := by
        rw [Int32.toInt_sub]
        apply Int.bmod_eq_of_le <;> omega
      rw [if_pos hc]
      by_cases hl : (left - F (b + 4 * k + 3)).toInt < 0
      · rw [if_pos hl]
        exact ⟨k, by omega, hc.1, rfl⟩
      · rw [if_neg hl]
        exact ih (k + 1) _ (by omega) (by omega) (by omega)
    · have e2 : ctr F b lo k = 0 := if_neg hc
      rw [if_neg hc]
      exact ih (k + 1) _ (by omega) h0 (by omega)
theorem cho_none (h0 : ∀ j, j < 3 → F (b + 4 * j) = nI 0) : ∀ n k left, k + n = 3 → choN F b lo n k left = -5 := by
  intro n
  induction n with
  | zero => intro k left _; rfl
  | succ n ih =>
    intro k left hk
    unfold choN
    rw [if_neg (fun q => nI01 ((h0 k (by omega)).symm.trans q.1))]
    exact ih (k + 1) left (by omega)
theorem choF_cases (hs : ∀ j, j < 3 → slotOk F (b + 4 * j)) (hf : 0 ≤ flow.toInt) : ((∀ j, j < 3 → F (b + 4 * j) = nI 0) ∧ choF F b flow = -5) ∨ ((∃ j, j < 3 ∧ F (b + 4 * j) = nI 1) ∧ ∃ j, j < 3 ∧ F (b + 4 * j) = nI 1 ∧ choF F b flow = F (b + 4 * j + 1)) := by
  rcases ls_ok hs 3 (by omega) with h | h
  · left
    refine ⟨h.1, ?_⟩
    unfold choF
    exact cho_none h.1 3 0 _ rfl
  · right
    refine ⟨h.2.1, ?_⟩
    unfold choF
    have hz : ¬ (lsN F b 3).2 = 0 := fun q => by
      have := h.2.2.2.2
      rw [q] at this
      have : (0 : Int32).toInt = 0 := rfl
      omega
    rw [if_neg hz]
    have hr := rem_ok hf h.2.2.2.2
    have g3 := Int.emod_nonneg flow.toInt (b := (lsN F b 3).2.toInt) (by have := h.2.2.2.2; omega)
    have g4 := Int.emod_lt_of_pos flow.toInt (b := (lsN F b 3).2.toInt) (by have := h.2.2.2.2; omega)
    have h4 := h.2.2.2.1
    refine cho_at hs 3 0 _ rfl (by omega) ?_
    show _ < ctS F b _ 3 - 0
    omega
end REF22
