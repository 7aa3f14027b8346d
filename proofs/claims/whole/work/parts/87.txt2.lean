/-! THE CLASS: numbers of the text -/
section TXT2
variable {L : Nat} {xs : Nat → Int32} {f i k r p q j n B w m lo hi d t : Nat} {x y v z l name flow place : Int32} {s s' : St} {F G F' u : Fm} {T : Nat → Nat} {Q : Option MV → St → Prop}
theorem byF_d (h : isDg T n p = true) : byF T n p = nI (T p) := if_pos (isDg_1 h).1
theorem t_isDigitD (ht : txtC s T n) (e : isDg T n p = true) (h : Q (some (.inl (bI (isDg T n p = true)))) s') : wpM L xs codT retT (f + 1) m_X0_isDigit [.inl (nI (T p))] s' Q := by
  rw [← byF_d e]
  exact t_isDigit ht h
set_option maxHeartbeats 4000000 in
set_option maxRecDepth 100000 in
theorem t_num (ht : txtC s T n) (hp : u 2 = nI p) (h3 : u 3 = -1) (hp8 : p ≤ 80) (hlo : lo < 1000) (hhi : hi < 1000) (h0 : ∀ q x u', numR T n p lo hi = .inl q → u' 3 = nI q → (∀ k, 4 ≤ k → u' k = u k) → Q (some (.inl x)) (setB s u')) (h1 : ∀ v q u', numR T n p lo hi = .inr (v, q) → u' 2 = nI q → u' 3 = -1 → (∀ k, 4 ≤ k → u' k = u k) → Q (some (.inl (nI v))) (setB s u')) : wpM L xs codT retT (f + 2) m_X0_readNumber [.inr (0, 0), .inl (nI lo), .inl (nI hi)] (setB s u) Q := by
  obtain ⟨hT, hn, h8, hB⟩ := id ht
  have g3 : (setB s u).1 0 0 3 = -1 := (setB_x (by omega)).trans h3
  have g2 : (setB s u).1 0 0 2 = nI p := (setB_x (by omega)).trans hp
  by_cases hd : isDg T n p = true
  · obtain ⟨d1, d2, d3⟩ := isDg_1 hd
    have hTp := hB p
    have eR : numR T n p lo hi = if lo ≤ (numF T n p).1 ∧ (numF T n p).1 ≤ hi then .inr (numF T n p) else .inl p := if_pos hd
    intro call hcall X hX
    have stop : ∀ v q k u' more, 1 ≤ k → k ≤ 3 → v < 1000 → q ≤ 80 → numF T n p = (v, q) → u' 2 = nI q → u' 3 = -1 → (∀ k, 4 ≤ k → u' k = u k) → (more = nI 0 ∨ (more = nI 1 ∧ ¬ (k < 3 ∧ isDg T n q = true))) → X 24 [.inr (0, 0), .inl (nI lo), .inl (nI hi), .inl (nI p), .inl (nI v), .inl (nI k), .inl more] [] (setB s u') := by
      intro v q k u' more hk1 hk3 hv hq hF e2 e3 hf hm
      have hk0 : ¬ nI k = 0 := fun q => nI_ne (a := k) (b := 0) (by omega) (by omega) (by omega) (q.trans nI_0.symm)
      by_cases hin : lo ≤ v ∧ v ≤ hi
      · have e : numR T n p lo hi = .inr (v, q) := by rw [eR, hF, if_pos hin]
        have h := h1 v q u' e e2 e3 hf
        clear h0 h1
        rcases hm with hm | ⟨hm, hm2⟩ <;> subst hm
        · refine hX 1000 24 _ _ _ ?_
          repeat' (first | (intro hc) | (refine And.intro ?_ ?_) | (exact absurd nI_0 ‹cmpF 0 (nI 0) 0›) | (exact absurd ‹cmpT 0 (nI 1) 0› nI1_ne) | (exact absurd nI_0 ‹cmpT 1 (nI 0) 0›) | (exact absurd ‹cmpF 1 (nI 1) 0› nI1_ne) | (show wp _ _ _ _ _ _ _ _ _ _ _ _; conv => whnf) | (simp (disch := omega) only [nI_add, nI_mul, setN_now, setN_put, nI_cl, Nat.add_zero]) | (refine hcall _ _ _ _ ?_; first | (refine t_byteHere ht e2 hq ?_) | (refine t_isDigit ht ?_) | fail))
          all_goals first
            | exact h
            | (exfalso; exact hk0 (by assumption))
            | (exfalso; exact (by assumption : ¬ nI 0 = 0) nI_0)
            | (exfalso; clear h hX hcall hB hT ht eR e hk0; simp (disch := omega) only [cmpT, cmpF, nI_toI] at *; omega)
        · refine hX 1000 24 _ _ _ ?_
          repeat' (first | (intro hc) | (refine And.intro ?_ ?_) | (exact absurd nI_0 ‹cmpF 0 (nI 0) 0›) | (exact absurd ‹cmpT 0 (nI 1) 0› nI1_ne) | (exact absurd nI_0 ‹cmpT 1 (nI 0) 0›) | (exact absurd ‹cmpF 1 (nI 1) 0› nI1_ne) | (show wp _ _ _ _ _ _ _ _ _ _ _ _; conv => whnf) | (simp (disch := omega) only [nI_add, nI_mul, setN_now, setN_put, nI_cl, Nat.add_zero]) | (refine hcall _ _ _ _ ?_; first | (refine t_byteHere ht e2 hq ?_) | (refine t_isDigit ht ?_) | fail))
          all_goals first
            | exact h
            | (exfalso; exact hk0 (by assumption))
            | (exfalso; refine hm2 ⟨?_, bI_ne0.mp (by assumption)⟩; clear h hX hcall hB hT ht eR e hm2 hk0; simp (disch := omega) only [cmpT, cmpF, nI_toI] at *; omega)
            | (exfalso; clear h hX hcall hB hT ht eR e hk0; simp (disch := omega) only [cmpT, cmpF, nI_toI] at *; omega)
            | (exfalso; exact nI1_ne (by assumption))
      · have e : numR T n p lo hi = .inl p := by rw [eR, hF, if_neg hin]
        have h := h0 p (nI v) (putF u' 3 (nI p)) e (putF_at _ _ _) (fun k hk => by rw [putF_ne _ _ (by omega)]; exact hf k hk)
        clear h0 h1
        rcases hm with hm | ⟨hm, hm2⟩ <;> subst hm
        · refine hX 1000 24 _ _ _ ?_
          repeat' (first | (intro hc) | (refine And.intro ?_ ?_) | (exact absurd nI_0 ‹cmpF 0 (nI 0) 0›) | (exact absurd ‹cmpT 0 (nI 1) 0› nI1_ne) | (exact absurd nI_0 ‹cmpT 1 (nI 0) 0›) | (exact absurd ‹cmpF 1 (nI 1) 0› nI1_ne) | (show wp _ _ _ _ _ _ _ _ _ _ _ _; conv => whnf) | (simp (disch := omega) only [setB_put]) | (simp (disch := omega) only [nI_add, nI_mul, setN_now, setN_put, nI_cl, Nat.add_zero]) | (refine hcall _ _ _ _ ?_; first | (refine t_byteHere ht e2 hq ?_) | (refine t_isDigit ht ?_) | fail))
          all_goals first
            | exact h
            | (exfalso; exact hk0 (by assumption))
            | (exfalso; exact (by assumption : ¬ nI 0 = 0) nI_0)
            | (exfalso; clear h hX hcall hB hT ht eR e hk0; simp (disch := omega) only [cmpT, cmpF, nI_toI] at *; omega)
        · refine hX 1000 24 _ _ _ ?_
          repeat' (first | (intro hc) | (refine And.intro ?_ ?_) | (exact absurd nI_0 ‹cmpF 0 (nI 0) 0›) | (exact absurd ‹cmpT 0 (nI 1) 0› nI1_ne) | (exact absurd nI_0 ‹cmpT 1 (nI 0) 0›) | (exact absurd ‹cmpF 1 (nI 1) 0› nI1_ne) | (show wp _ _ _ _ _ _ _ _ _ _ _ _; conv => whnf) | (simp (disch := omega) only [setB_put]) | (simp (disch := omega) only [nI_add, nI_mul, setN_now, setN_put, nI_cl, Nat.add_zero]) | (refine hcall _ _ _ _ ?_; first | (refine t_byteHere ht e2 hq ?_) | (refine t_isDigit ht ?_) | fail))
          all_goals first
            | exact h
            | (exfalso; exact hk0 (by assumption))
            | (exfalso; refine hm2 ⟨?_, bI_ne0.mp (by assumption)⟩; clear h hX hcall hB hT ht eR e hm2 hk0; simp (disch := omega) only [cmpT, cmpF, nI_toI] at *; omega)
            | (exfalso; clear h hX hcall hB hT ht eR e hk0; simp (disch := omega) only [cmpT, cmpF, nI_toI] at *; omega)
            | (exfalso; exact nI1_ne (by assumption))
    have loop : ∀ m k v q u' more, k + m = 3 → 1 ≤ k → (m = 2 → v < 10) → (m = 1 → v < 100) → v < 1000 → q ≤ 80 → u' 2 = nI q → u' 3 = -1 → (∀ k, 4 ≤ k → u' k = u k) → numG T n m v q = numF T n p → more = (if 0 < v then nI 1 else nI 0) → X 24 [.inr (0, 0), .inl (nI lo), .inl (nI hi), .inl (nI p), .inl (nI v), .inl (nI k), .inl more] [] (setB s u') := by
      clear h0 h1
      intro m
      induction m with
      | zero =>
        intro k v q u' more hk hk1 c1 c2 c3 hq e2 e3 hf hg hm
        refine stop v q k u' more hk1 (by omega) c3 hq hg.symm e2 e3 hf ?_
        by_cases hv : 0 < v
        · rw [if_pos hv] at hm; exact Or.inr ⟨hm, fun q => by omega⟩
        · rw [if_neg hv] at hm; exact Or.inl hm
      | succ m ih =>
        intro k v q u' more hk hk1 c1 c2 c3 hq e2 e3 hf hg hm
        by_cases hc0 : 0 < v ∧ isDg T n q = true
        · rw [numG_1 hc0.1 hc0.2] at hg
          obtain ⟨b1, b2, b3⟩ := isDg_1 hc0.2
          have hTq := hB q
          rw [if_pos hc0.1] at hm
          subst hm
          have ebq := byF_d hc0.2
          have hc2 := hc0.2
          have ih := fun more => ih (k + 1) (10 * v + T q - 48) (q + 1) (putF u' 2 (nI (q + 1))) more (by omega) (by omega) (by omega) (by omega) (by omega) (by omega) (putF_at _ _ _) (by rw [putF_ne _ _ (by omega)]; exact e3) (fun k hk => by rw [putF_ne _ _ (by omega)]; exact hf k hk) hg
          have ev : nI (v * 10 + T q) - nI 48 = nI (10 * v + T q - 48) := by rw [nI_sub (by omega) (by omega), show v * 10 + T q - 48 = 10 * v + T q - 48 by omega]
          have ih1 := fun hv => ih (nI 1) (if_pos hv).symm
          have ih0 := fun hv => ih (nI 0) (if_neg hv).symm
          clear stop ih
          refine hX 1000 24 _ _ _ ?_
          repeat' (first | (intro hc) | (refine And.intro ?_ ?_) | (exact absurd nI_0 ‹cmpF 0 (nI 0) 0›) | (exact absurd ‹cmpT 0 (nI 1) 0› nI1_ne) | (exact absurd nI_0 ‹cmpT 1 (nI 0) 0›) | (exact absurd ‹cmpF 1 (nI 1) 0› nI1_ne) | (show wp _ _ _ _ _ _ _ _ _ _ _ _; conv => whnf) | (rw [ebq]) | (rw [ev]) | (simp (disch := omega) only [setB_x, setB_put, e2, nI_add, nI_mul]) | (simp (disch := omega) only [nI_add, nI_mul, setN_now, setN_put, nI_cl, Nat.add_zero]) | (refine hcall _ _ _ _ ?_; first | (refine t_byteHere ht e2 hq ?_) | (refine t_isDigitD ht hc2 ?_) | fail))
          all_goals first
            | (simp only [takeL, setL, nI_add]; exact ih1 (by clear ih1 ih0 hX hcall hB hT ht eR hg; simp (disch := omega) only [cmpT, cmpF, byF_d hc2, nI_mul, nI_add, id ev, nI_toI, Int32.toInt_zero] at *; omega))
            | (simp only [takeL, setL, nI_add]; exact ih0 (by clear ih1 ih0 hX hcall hB hT ht eR hg; simp (disch := omega) only [cmpT, cmpF, byF_d hc2, nI_mul, nI_add, id ev, nI_toI, Int32.toInt_zero] at *; omega))
            | (exfalso; exact bF hc2 (by assumption))
            | (exfalso; exact nI1_ne (by assumption))
            | (exfalso; clear ih1 ih0 hX hcall hB hT ht eR hg; simp (disch := omega) only [cmpT, cmpF, nI_toI] at *; omega)
        · rw [numG_0 hc0] at hg
          refine stop v q k u' more hk1 (by omega) c3 hq hg.symm e2 e3 hf ?_
          by_cases hv : 0 < v
          · rw [if_pos hv] at hm; exact Or.inr ⟨hm, fun q => hc0 ⟨hv, q.2⟩⟩
          · rw [if_neg hv] at hm; exact Or.inl hm
    have ebp := byF_d hd
    have ev : nI (0 * 10 + T p) - nI 48 = nI (T p - 48) := by rw [nI_sub (by omega) (by omega), show 0 * 10 + T p - 48 = T p - 48 by omega]
    have go := fun more => loop 2 1 (T p - 48) (p + 1) (putF u 2 (nI (p + 1))) more (by omega) (by omega) (by omega) (by omega) (by omega) (by omega) (putF_at _ _ _) (by rw [putF_ne _ _ (by omega)]; exact h3) (fun k hk => putF_ne _ _ (by omega)) rfl
    have go1 := fun hv => go (nI 1) (if_pos hv).symm
    have go0 := fun hv => go (nI 0) (if_neg hv).symm
    have first : X 24 [.inr (0, 0), .inl (nI lo), .inl (nI hi), .inl (nI p), .inl (nI 0), .inl (nI 0), .inl (nI 1)] [] (setB s u) := by
      clear stop loop go h0 h1
      refine hX 1000 24 _ _ _ ?_
      repeat' (first | (intro hc) | (refine And.intro ?_ ?_) | (exact absurd nI_0 ‹cmpF 0 (nI 0) 0›) | (exact absurd ‹cmpT 0 (nI 1) 0› nI1_ne) | (exact absurd nI_0 ‹cmpT 1 (nI 0) 0›) | (exact absurd ‹cmpF 1 (nI 1) 0› nI1_ne) | (show wp _ _ _ _ _ _ _ _ _ _ _ _; conv => whnf) | (rw [ebp]) | (rw [ev]) | (simp (disch := omega) only [setB_x, setB_put, hp, nI_add, nI_mul]) | (simp (disch := omega) only [nI_add, nI_mul, setN_now, setN_put, nI_cl, Nat.add_zero]) | (refine hcall _ _ _ _ ?_; first | (refine t_byteHere ht hp hp8 ?_) | (refine t_isDigitD ht hd ?_) | fail))
      all_goals first
        | (simp only [takeL, setL, nI_add]; exact go1 (by clear go1 go0 hX hcall hB hT ht eR; simp (disch := omega) only [cmpT, cmpF, byF_d hd, nI_mul, nI_add, id ev, nI_toI, Int32.toInt_zero] at *; omega))
        | (simp only [takeL, setL, nI_add]; exact go0 (by clear go1 go0 hX hcall hB hT ht eR; simp (disch := omega) only [cmpT, cmpF, byF_d hd, nI_mul, nI_add, id ev, nI_toI, Int32.toInt_zero] at *; omega))
        | (exfalso; exact bF hd (by assumption))
        | (exfalso; exact nI1_ne (by assumption))
        | (exfalso; clear go1 go0 hX hcall hB hT ht eR; simp (disch := omega) only [cmpT, cmpF, nI_toI] at *; omega)
    clear stop loop go go1 go0 h0 h1
    refine hX 1000 0 _ _ _ ?_
    repeat' (first | (intro hc) | (refine And.intro ?_ ?_) | (exact absurd nI_0 ‹cmpF 0 (nI 0) 0›) | (exact absurd ‹cmpT 0 (nI 1) 0› nI1_ne) | (exact absurd nI_0 ‹cmpT 1 (nI 0) 0›) | (exact absurd ‹cmpF 1 (nI 1) 0› nI1_ne) | (show wp _ _ _ _ _ _ _ _ _ _ _ _; conv => whnf) | (rw [g2]))
    all_goals first
      | exact first
      | (simp only [takeL, setL]; rw [g2]; exact first)
      | (exfalso; exact (by assumption : ¬ (setB s u).1 0 0 3 = -1) g3)
  · have e : numR T n p lo hi = .inl p := if_neg hd
    have h := fun x => h0 p x (putF u 3 (nI p)) e (putF_at _ _ _) (fun k hk => putF_ne _ _ (by omega))
    clear h0 h1
    intro call hcall X hX; refine hX 1000 0 _ _ _ ?_
    have first : X 24 [.inr (0, 0), .inl (nI lo), .inl (nI hi), .inl (nI p), .inl (nI 0), .inl (nI 0), .inl (nI 1)] [] (setB s u) := by
      refine hX 1000 24 _ _ _ ?_
      repeat' (first | (intro hc) | (refine And.intro ?_ ?_) | (exact absurd nI_0 ‹cmpF 0 (nI 0) 0›) | (exact absurd ‹cmpT 0 (nI 1) 0› nI1_ne) | (exact absurd nI_0 ‹cmpT 1 (nI 0) 0›) | (exact absurd ‹cmpF 1 (nI 1) 0› nI1_ne) | (show wp _ _ _ _ _ _ _ _ _ _ _ _; conv => whnf) | (simp (disch := omega) only [setB_put]) | (simp (disch := omega) only [nI_add, nI_mul, setN_now, setN_put, nI_cl, Nat.add_zero]) | (refine hcall _ _ _ _ ?_; first | (refine t_byteHere ht hp hp8 ?_) | (refine t_isDigit ht ?_) | fail))
      all_goals first
        | exact h _
        | (exfalso; exact bT hd (by assumption))
        | (exfalso; exact nI1_ne (by assumption))
        | (exfalso; exact (by assumption : ¬ nI 0 = 0) nI_0)
        | (exfalso; clear h hX hcall hB hT ht e; simp (disch := omega) only [cmpT, cmpF, nI_toI] at *; omega)
    repeat' (first | (intro hc) | (refine And.intro ?_ ?_) | (exact absurd nI_0 ‹cmpF 0 (nI 0) 0›) | (exact absurd ‹cmpT 0 (nI 1) 0› nI1_ne) | (exact absurd nI_0 ‹cmpT 1 (nI 0) 0›) | (exact absurd ‹cmpF 1 (nI 1) 0› nI1_ne) | (show wp _ _ _ _ _ _ _ _ _ _ _ _; conv => whnf) | (rw [g2]))
    all_goals first
      | exact first
      | (simp only [takeL, setL]; rw [g2]; exact first)
      | (exfalso; exact (by assumption : ¬ (setB s u).1 0 0 3 = -1) g3)
end TXT2
