/-! the maps of a router, moved: all stays well -/
section WO
variable {i k r p q c j B b n : Nat} {x y v a z name flow place : Int32} {F G : Fm}
theorem WFmap_sh (h : ∀ j, j < 16 → G (mA r q + j) = F (mA r p + j)) (hT : cT G = cT F) (w : WFmap F r p) : WFmap G r q := by
  obtain ⟨q1, q2, q3, q4⟩ := w
  have e0 : G (mA r q) = F (mA r p) := h 0 (by omega)
  have e3 := h 3 (by omega)
  refine ⟨by rw [e0]; exact q1, by rw [e0, hT]; exact q2, by rw [e3]; exact q3, fun j hj => ?_⟩
  have := q4 j hj
  unfold slotOk at this ⊢
  have g0 := h (4 + 4 * j) (by omega)
  have g1 := h (4 + 4 * j + 1) (by omega)
  have g2 := h (4 + 4 * j + 2) (by omega)
  have g3 := h (4 + 4 * j + 3) (by omega)
  simp only [← Nat.add_assoc] at g0 g1 g2 g3
  rw [g0, g1, g2, g3]
  exact this
theorem WFr_map (hT : cT G = cT F) (hc : G (165 + 6 * r) = nI (cM G r)) (h5 : cM G r ≤ 5) (sg : Nat → Nat) (h : ∀ q, q < cM G r → sg q < cM F r ∧ ∀ j, j < 16 → G (mA r q + j) = F (mA r (sg q) + j)) (hi : ∀ q1 q2, q1 < cM G r → q2 < cM G r → sg q1 = sg q2 → q1 = q2) (w : WFrouter F r) : WFrouter G r := by
  refine ⟨hc, h5, fun q hq => WFmap_sh (h q hq).2 hT (w.2.2.1 _ (h q hq).1), fun q1 q2 a b e => ?_⟩
  have e1 : G (mA r q1) = F (mA r (sg q1)) := (h q1 a).2 0 (by omega)
  have e2 : G (mA r q2) = F (mA r (sg q2)) := (h q2 b).2 0 (by omega)
  exact hi q1 q2 a b (w.2.2.2 _ _ (h q1 a).1 (h q2 b).1 (by rw [← e1, ← e2]; exact e))
theorem mA_eq (r p : Nat) : mA r p = 189 + 80 * r + 16 * p := by unfold mA; omega
theorem drops_lo (h : i < 165) : dropsF F r p i = F i := by
  have h1 := mA_eq r p
  simp only [dropsF]
  (repeat' split) <;> first | rfl | omega | (exfalso; omega) | (congr 1; omega)
theorem drops_c (w : WFrouter F r) (h1 : 0 < cM F r) : dropsF F r p (165 + 6 * r) = nI (cM F r - 1) ∧ cM (dropsF F r p) r = cM F r - 1 := by
  have e : dropsF F r p (165 + 6 * r) = nI (cM F r - 1) := by
    show (if 165 + 6 * r = 165 + 6 * r then F (165 + 6 * r) - nI 1 else _) = _
    rw [if_pos rfl]
    have h2 := w.1
    have h3 := w.2.1
    rw [h2, nI_sub (by omega) (by omega)]
  refine ⟨e, ?_⟩
  have h3 := w.2.1
  show nn (dropsF F r p (165 + 6 * r)) = _
  rw [e]
  exact nI_cl (by omega)
theorem drops_map (hr : r < 4) (hq : q < cM F r - 1) (hj : j < 16) : dropsF F r p (mA r q + j) = F (mA r (if p ≤ q then q + 1 else q) + j) := by
  have h1 := mA_eq r p
  have h2 := mA_eq r q
  have h3 := mA_eq r (cM F r - 1)
  have h4 := mA_eq r (q + 1)
  simp only [dropsF]
  by_cases hp : p ≤ q
  · rw [if_pos hp, if_neg (by omega), if_pos (by omega)]
    congr 1
    omega
  · rw [if_neg hp, if_neg (by omega), if_neg (by omega)]
theorem drops_o (hr : r < 4) (hi : i ≠ 165 + 6 * r) (h5 : cM F r ≤ 5) (hm : i < mA r 0 ∨ mA r 5 ≤ i) : dropsF F r p i = F i := by
  have h1 := mA_eq r p
  have h2 := mA_eq r 0
  have h3 := mA_eq r (cM F r - 1)
  have h4 := mA_eq r 5
  simp only [dropsF]
  rw [if_neg hi, if_neg (by omega)]
theorem WFr_drop (hr : r < 4) (w : WFrouter F r) (hp : p < cM F r) : WFrouter (dropsF F r p) r := by
  obtain ⟨e1, e2⟩ := drops_c (p := p) w (by omega)
  have h5 := w.2.1
  refine WFr_map (by unfold cT; rw [drops_lo (by omega)]) (by rw [e1, e2]) (by omega) (fun q => if p ≤ q then q + 1 else q) (fun q hq => ?_) (fun q1 q2 a b e => ?_) w
  · rw [e2] at hq
    exact ⟨by split <;> omega, fun j hj => drops_map hr hq hj⟩
  · split at e <;> split at e <;> omega
theorem WF_drop (hw : WF F B) (hr : r < cR F) (hp : p < cM F r) : WF (dropsF F r p) B := by
  have h4 := hw.r2
  refine WF_upd hw (fun i hi => drops_lo hi) (fun r' hr' => ?_)
  by_cases e : r' = r
  · subst e; exact WFr_drop (by omega) (hw.router hr) hp
  · have h1 := mA_eq r' 0
    have h2 := mA_eq r' 5
    have h3 := mA_eq r 0
    have h6 := mA_eq r 5
    have h7 := (hw.router hr).2.1
    exact WFrouter_cg (by unfold cT; rw [drops_lo (by omega)]) (drops_o (by omega) (by omega) h7 (by omega)) (fun i a b => drops_o (by omega) (by omega) h7 (by omega)) (hw.router hr')
theorem uses_lo (h : i < 189) : usesF F r p i = F i := by
  have h1 := mA_eq r 0
  have h2 := mA_eq r 1
  simp only [usesF]
  rw [if_neg (by omega), if_neg (by omega)]
theorem uses_o (hm : i < mA r 0 ∨ mA r (p + 1) ≤ i) : usesF F r p i = F i := by
  have h1 := mA_eq r 0
  have h2 := mA_eq r 1
  have h3 := mA_eq r (p + 1)
  simp only [usesF]
  rw [if_neg (by omega), if_neg (by omega)]
theorem uses_map (hj : j < 16) : usesF F r p (mA r q + j) = F (mA r (if q = 0 then p else if q ≤ p then q - 1 else q) + j) := by
  have h1 := mA_eq r p
  have h2 := mA_eq r q
  have h3 := mA_eq r 0
  have h4 := mA_eq r 1
  have h5 := mA_eq r (p + 1)
  have h6 := mA_eq r (q - 1)
  simp only [usesF]
  by_cases h0 : q = 0
  · rw [if_pos h0, if_pos (by omega)]
    congr 1
    omega
  · rw [if_neg h0, if_neg (by omega)]
    by_cases hp : q ≤ p
    · rw [if_pos hp, if_pos (by omega)]
      congr 1
      omega
    · rw [if_neg hp, if_neg (by omega)]
theorem uses_c : cM (usesF F r p) r = cM F r := by
  have h1 := mA_eq r 0
  unfold cM
  rw [uses_o (by omega)]
theorem WF_uses (hw : WF F B) (hr : r < cR F) (hp : p < cM F r) : WF (usesF F r p) B := by
  have h4 := hw.r2
  have hT : cT (usesF F r p) = cT F := by unfold cT; rw [uses_lo (by omega)]
  refine WF_upd hw (fun i hi => uses_lo (by omega)) (fun r' hr' => ?_)
  have h1 := mA_eq r' 0
  have h2 := mA_eq r' 5
  have h3 := mA_eq r 0
  have h6 := mA_eq r (p + 1)
  have h7 := (hw.router hr).2.1
  by_cases e : r' = r
  · subst e
    have w := hw.router hr
    refine WFr_map hT (by rw [uses_c, uses_lo (by omega)]; exact w.1) (by rw [uses_c]; exact h7) (fun q => if q = 0 then p else if q ≤ p then q - 1 else q) (fun q hq => ?_) (fun q1 q2 a b e => ?_) w
    · rw [uses_c] at hq
      exact ⟨by split <;> (try split) <;> omega, fun j hj => uses_map hj⟩
    · split at e <;> split at e <;> (try split at e) <;> (try split at e) <;> omega
  · exact WFrouter_cg hT (uses_lo (by omega)) (fun i a b => uses_o (by omega)) (hw.router hr')
end WO
