/-! THE SITES THAT HOLD, by their ends -/
abbrev hldF (F : Fm) (k : Nat) : Prop := (F 0).toInt < (F (29 + 17 * k + 4)).toInt
def hldP (F : Fm) : Nat → Bool := fun k => decide (hldF F k)
def rnk (F : Fm) (m : Nat) : Nat := cntB (ahdP F m) (cT F)
theorem cnt_mono {p q : Nat → Bool} : ∀ n, (∀ k, k < n → p k = true → q k = true) → cntB p n ≤ cntB q n
  | 0, _ => Nat.le_refl _
  | n + 1, h => by
    have ih := cnt_mono n (fun k hk => h k (by omega))
    have h1 := h n (by omega)
    show cntB p n + (if p n = true then 1 else 0) ≤ cntB q n + (if q n = true then 1 else 0)
    by_cases e : p n = true
    · rw [if_pos e, if_pos (h1 e)]; omega
    · rw [if_neg e]; omega
theorem cnt_lt {p q : Nat → Bool} : ∀ n, (∀ k, k < n → p k = true → q k = true) → ∀ m, m < n → q m = true → ¬ p m = true → cntB p n < cntB q n
  | 0, _, m, hm, _, _ => absurd hm (by omega)
  | n + 1, h, m, hm, h1, h2 => by
    have hn := h n (by omega)
    show cntB p n + (if p n = true then 1 else 0) < cntB q n + (if q n = true then 1 else 0)
    by_cases e : m = n
    · subst e
      have ih := cnt_mono m (fun k hk => h k (by omega))
      rw [if_neg h2, if_pos h1]; omega
    · have ih := cnt_lt n (fun k hk => h k (by omega)) m (by omega) h1 h2
      by_cases e : p n = true
      · rw [if_pos e, if_pos (hn e)]; omega
      · rw [if_neg e]; omega
theorem cnt_or {p q r : Nat → Bool} : ∀ n, (∀ k, k < n → p k = true → q k = true ∨ r k = true) → cntB p n ≤ cntB q n + cntB r n
  | 0, _ => Nat.le_refl _
  | n + 1, h => by
    have ih := cnt_or n (fun k hk => h k (by omega))
    have hn := h n (by omega)
    show cntB p n + (if p n = true then 1 else 0) ≤ cntB q n + (if q n = true then 1 else 0) + (cntB r n + (if r n = true then 1 else 0))
    by_cases e : p n = true
    · rw [if_pos e]
      rcases hn e with h1 | h1
      · rw [if_pos h1]; omega
      · rw [if_pos h1]; omega
    · rw [if_neg e]; omega
theorem cnt_zero {p : Nat → Bool} : ∀ n, (∀ k, k < n → ¬ p k = true) → cntB p n = 0
  | 0, _ => rfl
  | n + 1, h => by
    show cntB p n + (if p n = true then 1 else 0) = 0
    rw [cnt_zero n (fun k hk => h k (by omega)), if_neg (h n (by omega))]
theorem cnt_one {p : Nat → Bool} : ∀ n, (∀ i j, i < n → j < n → p i = true → p j = true → i = j) → cntB p n ≤ 1
  | 0, _ => Nat.zero_le _
  | n + 1, h => by
    have ih := cnt_one n (fun i j hi hj => h i j (by omega) (by omega))
    show cntB p n + (if p n = true then 1 else 0) ≤ 1
    by_cases e : p n = true
    · rw [if_pos e, cnt_zero n (fun k hk hp => by have := h k n (by omega) (by omega) hp e; omega)]
      omega
    · rw [if_neg e]; omega
theorem cnt_n {p : Nat → Bool} : ∀ n, cntB p n ≤ n
  | 0 => Nat.le_refl _
  | n + 1 => by
    have := cnt_n (p := p) n
    show cntB p n + (if p n = true then 1 else 0) ≤ n + 1
    split <;> omega
theorem firN_yes {p : Nat → Bool} : ∀ n k j, firN p n k = some j → p j = true ∧ k ≤ j ∧ j < k + n
  | 0, k, j, h => by cases h
  | n + 1, k, j, h => by
    unfold firN at h
    split at h
    · rename_i e
      cases h
      exact ⟨e, by omega, by omega⟩
    · obtain ⟨h1, h2, h3⟩ := firN_yes n (k + 1) j h
      exact ⟨h1, by omega, by omega⟩
theorem firN_no {p : Nat → Bool} : ∀ n k, firN p n k = none → ∀ j, k ≤ j → j < k + n → ¬ p j = true
  | 0, k, h, j, h1, h2 => absurd h1 (by omega)
  | n + 1, k, h, j, h1, h2 => by
    unfold firN at h
    split at h
    · cases h
    · rename_i e
      by_cases q : j = k
      · subst q; exact e
      · exact firN_no n (k + 1) h j (by omega) (by omega)
section NXT
variable {k m p q n B : Nat} {F : Fm}
theorem ahd_irr : ¬ aheadF F m m := fun h => by
  rcases h.2 with q | q
  · omega
  · omega
theorem ahd_tr (h1 : aheadF F k m) (h2 : aheadF F m n) : aheadF F k n := by
  refine ⟨h1.1, ?_⟩
  rcases h1.2 with a | ⟨a, a'⟩ <;> rcases h2.2 with b | ⟨b, b'⟩
  · left; omega
  · left; rw [← b]; exact a
  · left; rw [a]; exact b
  · right; exact ⟨a.trans b, by omega⟩
theorem ahd_tot (h1 : hldF F k) (h2 : hldF F m) (h : k ≠ m) : aheadF F k m ∨ aheadF F m k := by
  rcases Int.lt_trichotomy (F (29 + 17 * k + 4)).toInt (F (29 + 17 * m + 4)).toInt with a | a | a
  · exact Or.inl ⟨h1, Or.inl a⟩
  · have e : F (29 + 17 * k + 4) = F (29 + 17 * m + 4) := Int32.toInt_inj.mp a
    rcases Nat.lt_or_ge k m with b | b
    · exact Or.inl ⟨h1, Or.inr ⟨e, b⟩⟩
    · exact Or.inr ⟨h2, Or.inr ⟨e.symm, by omega⟩⟩
  · exact Or.inr ⟨h2, Or.inl a⟩
theorem rnk_lt (h : aheadF F k m) (hk : k < cT F) : rnk F k < rnk F m := by
  refine cnt_lt _ (fun i hi e => ?_) k hk ?_ ?_
  · exact decide_eq_true (ahd_tr (of_decide_eq_true e) h)
  · exact decide_eq_true h
  · exact fun e => ahd_irr (of_decide_eq_true e)
theorem rnk_H (hm : m < cT F) (h : hldF F m) : rnk F m < cntB (hldP F) (cT F) := by
  refine cnt_lt _ (fun i hi e => ?_) m hm ?_ ?_
  · exact decide_eq_true (of_decide_eq_true e : aheadF F i m).1
  · exact decide_eq_true h
  · exact fun e => ahd_irr (of_decide_eq_true e)
theorem rnk_inj (hk : k < cT F) (hm : m < cT F) (h1 : hldF F k) (h2 : hldF F m) (e : rnk F k = rnk F m) : k = m := by
  by_cases h : k = m
  · exact h
  · exfalso
    rcases ahd_tot h1 h2 h with a | a
    · have := rnk_lt a hk; omega
    · have := rnk_lt a hm; omega
def belP (F : Fm) (q : Nat) : Nat → Bool := fun k => decide (hldF F k ∧ rnk F k < q)
theorem bel_s (q : Nat) : cntB (belP F (q + 1)) (cT F) ≤ cntB (belP F q) (cT F) + 1 := by
  have h1 := cnt_or (p := belP F (q + 1)) (q := belP F q) (r := fun k => decide (hldF F k ∧ rnk F k = q)) (cT F) (fun k hk e => by
    have e : hldF F k ∧ rnk F k < q + 1 := of_decide_eq_true e
    rcases Nat.lt_or_ge (rnk F k) q with a | a
    · exact Or.inl (decide_eq_true ⟨e.1, a⟩)
    · exact Or.inr (decide_eq_true ⟨e.1, by omega⟩))
  have h2 := cnt_one (p := fun k => decide (hldF F k ∧ rnk F k = q)) (cT F) (fun i j hi hj a b => by
    have a : hldF F i ∧ rnk F i = q := of_decide_eq_true a
    have b : hldF F j ∧ rnk F j = q := of_decide_eq_true b
    exact rnk_inj hi hj a.1 b.1 (by omega))
  omega
theorem bel_le : ∀ d q, cntB (belP F (q + d)) (cT F) ≤ cntB (belP F q) (cT F) + d
  | 0, q => Nat.le_refl _
  | d + 1, q => by
    have h1 := bel_le d q
    have h2 := bel_s (F := F) (q + d)
    have e : q + (d + 1) = q + d + 1 := by omega
    rw [e]; omega
theorem rnk_ex (hp : p < cntB (hldP F) (cT F)) : ∃ m, m < cT F ∧ hldF F m ∧ rnk F m = p := by
  apply Classical.byContradiction
  intro hn
  have h0 : cntB (belP F 0) (cT F) = 0 := cnt_zero _ (fun k hk e => by
    have e : hldF F k ∧ rnk F k < 0 := of_decide_eq_true e
    omega)
  have h1 := bel_le (F := F) p 0
  have h2 : cntB (belP F (p + 1)) (cT F) ≤ cntB (belP F p) (cT F) := cnt_mono _ (fun k hk e => by
    have e : hldF F k ∧ rnk F k < p + 1 := of_decide_eq_true e
    refine decide_eq_true ⟨e.1, ?_⟩
    have : rnk F k ≠ p := fun q => hn ⟨k, hk, e.1, q⟩
    omega)
  have h3 := bel_le (F := F) (cntB (hldP F) (cT F) - (p + 1)) (p + 1)
  have h4 : cntB (hldP F) (cT F) ≤ cntB (belP F (p + 1 + (cntB (hldP F) (cT F) - (p + 1)))) (cT F) := cnt_mono _ (fun k hk e => by
    have e : hldF F k := of_decide_eq_true e
    refine decide_eq_true ⟨e, ?_⟩
    have := rnk_H hk e
    omega)
  rw [Nat.zero_add] at h1
  omega
theorem nxt_eq (hw : WF F B) (hk : k < 1000) {m : Nat} : nxtP F (nI k) m = true ↔ hldF F m ∧ rnk F m = k := by
  unfold nxtP
  rw [decide_eq_true_eq]
  have h8 := hw.t2
  have hr : rnk F m ≤ cT F := cnt_n _
  show (hldF F m ∧ nI (rnk F m) = nI k) ↔ _
  rw [nI_inj (by omega) (by omega)]
theorem next_none (hw : WF F B) : nextA F (nI (cntB (hldP F) (cT F))) = -5 := by
  have h8 := hw.t2
  have hc : cntB (hldP F) (cT F) ≤ cT F := cnt_n _
  unfold nextA
  rw [if_neg (by rw [nI_toI (by omega)]; omega)]
  cases h : firN (nxtP F (nI (cntB (hldP F) (cT F)))) (cT F) 0 with
  | none => rfl
  | some j =>
    obtain ⟨h1, h2, h3⟩ := firN_yes _ _ _ h
    rw [nxt_eq hw (by omega)] at h1
    have := rnk_H (by omega) h1.1
    omega
theorem next_some (hw : WF F B) (hp : p < cntB (hldP F) (cT F)) : ∃ m, m < cT F ∧ nextA F (nI p) = nI m ∧ hldF F m ∧ rnk F m = p := by
  have h8 := hw.t2
  have hc : cntB (hldP F) (cT F) ≤ cT F := cnt_n _
  unfold nextA
  rw [if_neg (by rw [nI_toI (by omega)]; omega)]
  cases h : firN (nxtP F (nI p)) (cT F) 0 with
  | none =>
    obtain ⟨m, hm, h1, h2⟩ := rnk_ex hp
    exact absurd ((nxt_eq hw (by omega)).mpr ⟨h1, h2⟩) (firN_no _ _ h m (by omega) (by omega))
  | some j =>
    obtain ⟨h1, h2, h3⟩ := firN_yes _ _ _ h
    rw [nxt_eq hw (by omega)] at h1
    exact ⟨j, by omega, rfl, h1.1, h1.2⟩
theorem next_ord {l : Nat} (hl : l < cT F) (hm : m < cT F) (h1 : hldF F l) (h2 : hldF F m) (h : rnk F l < rnk F m) : (F (29 + 17 * l + 4)).toInt < (F (29 + 17 * m + 4)).toInt ∨ (F (29 + 17 * l + 4) = F (29 + 17 * m + 4) ∧ l < m) := by
  rcases ahd_tot h1 h2 (fun e => by rw [e] at h; omega) with a | a
  · exact a.2
  · have := rnk_lt a hm; omega
end NXT
