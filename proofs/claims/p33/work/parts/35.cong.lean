/-! what does not change, when other numbers change -/
section CG
variable {k r p c j B b n : Nat} {x y v a z name flow place : Int32} {F G : Fm}
theorem homeN_cg (h : ∀ i, i < 29 → G i = F i) : ∀ n, n < 8 → homeN G a z n = homeN F a z n := by
  intro n
  induction n with
  | zero => intro _; rfl
  | succ n ih =>
    intro hn
    have h3 := homeN_le (F := F) (a := a) (z := z) n
    unfold homeN holdF
    rw [ih (by omega), h (5 + 3 * (n + 1) + 1) (by omega), h (5 + 3 * (n + 1) + 2) (by omega), h (5 + 3 * homeN F a z n + 2) (by omega)]
theorem homeF_cg (hw : WF F B) (h : ∀ i, i < 29 → G i = F i) : homeF G a z = homeF F a z := by
  have h2 := hw.s2
  unfold homeF
  have e : cS G = cS F := by unfold cS; rw [h 1 (by omega)]
  rw [e, homeN_cg h _ (by omega)]
theorem wayF_cg (hw : WF F B) (h : ∀ i, i < 29 → G i = F i) (hk : k < cS F) : wayF G k = wayF F k := by
  have h2 := hw.s2
  have : ∀ m k, k < cS F → wayN G m k = wayN F m k := by
    intro m
    induction m with
    | zero => intro k _; rfl
    | succ m ih =>
      intro k hk
      unfold wayN
      by_cases h0 : k = 0
      · rw [if_pos h0, if_pos h0]
      · rw [if_neg h0, if_neg h0, h (5 + 3 * k) (by omega)]
        obtain ⟨p, h1, h3⟩ := hw.par k (by omega) hk
        have e : nn (F (5 + 3 * k)) = p := by rw [h3]; exact nI_cl (by omega)
        rw [e, ih p (by omega)]
  exact this 8 k hk
theorem upF_cg (h : ∀ i, i < 165 → G i = F i) (hk : k < 8) : upF G k ↔ upF F k := by
  unfold upF
  rw [h 0 (by omega), h (29 + 17 * k + 4) (by omega), h (29 + 17 * k + 5) (by omega), h (29 + 17 * k + 9) (by omega), h (29 + 17 * k + 13) (by omega)]
theorem ansF_cg (hw : WF F B) (h : ∀ i, i < 165 → G i = F i) : ansF G name = ansF F name := by
  have h2 := hw.t2
  have e : cT G = cT F := by unfold cT; rw [h 2 (by omega)]
  have : ∀ n, n ≤ 8 → ansN G name n = ansN F name n := by
    intro n
    induction n with
    | zero => intro _; rfl
    | succ n ih =>
      intro hn
      have hlt := ansN_lt (F := F) (name := name) n
      have e1 : betB G n (ansN G name n) = betB F n (ansN F name n) := by
        rw [ih (by omega)]
        cases ho : ansN F name n with
        | none => rfl
        | some b =>
          have := hlt b ho
          simp only [betB]
          rw [h (29 + 17 * n + 1) (by omega), h (29 + 17 * b + 1) (by omega)]
      unfold ansN
      rw [e1, ih (by omega)]
      have e2 : (upF G n ∧ hasF G n name ∧ homeF G (G (29 + 17 * n)) (G (29 + 17 * n + 1)) = homeF G name (nI 1)) ↔ (upF F n ∧ hasF F n name ∧ homeF F (F (29 + 17 * n)) (F (29 + 17 * n + 1)) = homeF F name (nI 1)) := by
        rw [upF_cg h (by omega), homeF_cg hw (fun i hi => h i (by omega)), homeF_cg hw (fun i hi => h i (by omega))]
        unfold hasF
        rw [h (29 + 17 * n) (by omega), h (29 + 17 * n + 1) (by omega)]
      by_cases hc : (upF F n ∧ hasF F n name ∧ homeF F (F (29 + 17 * n)) (F (29 + 17 * n + 1)) = homeF F name (nI 1)) ∧ betB F n (ansN F name n) = true
      · rw [if_pos hc, if_pos ⟨e2.mpr hc.1, hc.2⟩]
      · rw [if_neg hc, if_neg (fun q => hc ⟨e2.mp q.1, q.2⟩)]
  unfold ansF
  rw [e, this _ h2]
theorem slotOk_cg (h : ∀ i, b ≤ i → i < b + 4 → G i = F i) : slotOk F b → slotOk G b := by
  intro q
  unfold slotOk at q ⊢
  rw [h b (by omega) (by omega), h (b + 1) (by omega) (by omega), h (b + 2) (by omega) (by omega), h (b + 3) (by omega) (by omega)]
  exact q
theorem WFmap_cg (h : ∀ i, mA r p ≤ i → i < mA r p + 16 → G i = F i) (hT : cT G = cT F) (q : WFmap F r p) : WFmap G r p := by
  obtain ⟨q1, q2, q3, q4⟩ := q
  have e0 := h (mA r p) (by omega) (by omega)
  have e3 := h (mA r p + 3) (by omega) (by omega)
  refine ⟨by rw [e0]; exact q1, by rw [e0, hT]; exact q2, by rw [e3]; exact q3, fun j hj => slotOk_cg (fun i h1 h2 => h i (by omega) (by omega)) (q4 j hj)⟩
/-- the numbers below 165 are the same, and each router is well -/
theorem WF_upd (hw : WF F B) (h : ∀ i, i < 165 → G i = F i) (hr : ∀ r, r < cR F → WFrouter G r) : WF G B := by
  have e1 : cS G = cS F := by unfold cS; rw [h 1 (by omega)]
  have e2 : cT G = cT F := by unfold cT; rw [h 2 (by omega)]
  have e3 : cR G = cR F := by unfold cR; rw [h 3 (by omega)]
  have hs := hw.s2
  have ht := hw.t2
  refine ⟨?_, ?_, ?_, ?_, ?_, fun k hk => ?_, fun k hk => ?_, fun r hk => hr r (by omega)⟩
  · rw [h 1 (by omega), e1]; exact hw.1
  · rw [h 2 (by omega), e2]; exact hw.2.1
  · rw [h 3 (by omega), e3]; exact hw.2.2.1
  · rw [h 0 (by omega)]; exact hw.h
  · rw [h 4 (by omega)]; exact hw.l
  · rw [e1] at hk
    have q := hw.server hk
    unfold WFserver at q ⊢
    rw [h (5 + 3 * k) (by omega), h (5 + 3 * k + 1) (by omega), h (5 + 3 * k + 2) (by omega)]
    exact q
  · rw [e2] at hk
    have q := hw.site hk
    unfold WFsite at q ⊢
    rw [h (29 + 17 * k) (by omega), h (29 + 17 * k + 1) (by omega), h (29 + 17 * k + 2) (by omega), h (29 + 17 * k + 3) (by omega), h (29 + 17 * k + 4) (by omega)]
    exact ⟨q.1, q.2.1, q.2.2.1, q.2.2.2.1, fun j hj => slotOk_cg (fun i h1 h2 => h i (by omega)) (q.2.2.2.2 j hj)⟩
theorem WFrouter_cg (hT : cT G = cT F) (h0 : G (165 + 6 * r) = F (165 + 6 * r)) (h : ∀ i, mA r 0 ≤ i → i < mA r 5 → G i = F i) (q : WFrouter F r) : WFrouter G r := by
  obtain ⟨q1, q2, q3, q4⟩ := q
  have hm : ∀ p, mA r p = mA r 0 + 16 * p := fun p => by unfold mA; omega
  have e : cM G r = cM F r := by unfold cM; rw [h0]
  have h5 := hm 5
  refine ⟨by rw [e, h0]; exact q1, by rw [e]; exact q2, fun p hp => WFmap_cg (fun i a b => h i (by have := hm p; omega) (by have := hm p; omega)) hT (q3 p (by omega)), fun p1 p2 a b => ?_⟩
  have g1 := hm p1
  have g2 := hm p2
  rw [h (mA r p1) (by omega) (by omega), h (mA r p2) (by omega) (by omega)]
  exact q4 p1 p2 (by omega) (by omega)
/-- only counters of router r change -/
theorem WF_cnt (hw : WF F B) (hr : r < 4) (h : ∀ i, (i ≤ 165 + 6 * r ∨ 165 + 6 * r + 6 ≤ i) → G i = F i) : WF G B := by
  refine WF_upd hw (fun i hi => h i (by omega)) (fun r' hr' => ?_)
  have h4 := hw.r2
  have hm : mA r' 0 = 189 + 80 * r' := by unfold mA; omega
  refine WFrouter_cg (by unfold cT; rw [h 2 (by omega)]) (h _ (by omega)) (fun i a b => h i (by omega)) (hw.router hr')
end CG
