/-! THE TEXT: numbers and acts, read by the reference -/
section REF26
variable {L : Nat} {xs : Nat → Int32} {f i k r p q c j n B b w m lo hi : Nat} {x y v a z l name flow place : Int32} {s : St} {F G F' u : Fm} {T : Nat → Nat} {Q : Option MV → St → Prop}
theorem numG_1 (h : 0 < k) (h2 : isDg T n p = true) : numG T n (m + 1) k p = numG T n m (10 * k + T p - 48) (p + 1) := if_pos ⟨h, h2⟩
theorem numG_0 (h : ¬ (0 < k ∧ isDg T n p = true)) : numG T n (m + 1) k p = (k, p) := if_neg h
theorem nI_ne {a b : Nat} (ha : a < 2147483648) (hb : b < 2147483648) (h : a ≠ b) : ¬ nI a = nI b := fun q => h ((nI_inj ha hb).mp q)
set_option maxHeartbeats 4000000 in
set_option maxRecDepth 100000 in
theorem r_passesNumber (ht : txtR s T n) (hp : u 6 = nI p) (hp8 : p ≤ 80) (hlo : lo < 1000) (hhi : hi < 1000) (h0 : ∀ q u', numR T n p lo hi = .inl q → u' 6 = nI q → (∀ k, k ≠ 6 → k ≠ 7 → u' k = u k) → Q (some (.inl (nI 0))) (setA s u')) (h1 : ∀ v q u', numR T n p lo hi = .inr (v, q) → v < 1000 → q ≤ 80 → u' 6 = nI q → u' 7 = nI v → (∀ k, k ≠ 6 → k ≠ 7 → u' k = u k) → Q (some (.inl (nI 1))) (setA s u')) : wpM L xs codT retT (f + 3) m_X10_passesNumber [.inr (10, 0), .inl (nI lo), .inl (nI hi)] (setA s u) Q := by
  obtain ⟨hT, hn, h8, hB⟩ := id ht
  by_cases hd : isDg T n p = true
  · obtain ⟨d1, d2, d3⟩ := isDg_1 hd
    have eR : numR T n p lo hi = if lo ≤ (numF T n p).1 ∧ (numF T n p).1 ≤ hi then .inr (numF T n p) else .inl p := if_pos hd
    intro call hcall X hX; refine hX 1000 0 _ _ _ ?_
    repeat' (first | (intro hc) | (refine And.intro ?_ ?_) | (exact absurd nI_0 ‹cmpF 0 (nI 0) 0›) | (exact absurd ‹cmpT 0 (nI 1) 0› nI1_ne) | (exact absurd nI_0 ‹cmpT 1 (nI 0) 0›) | (exact absurd ‹cmpF 1 (nI 1) 0› nI1_ne) | (show wp _ _ _ _ _ _ _ _ _ _ _ _; conv => whnf) | (simp (disch := omega) only [setA_x, setA_y, setA_o, setA_put, hp, hn, hT, nI_cl, nI_add, nI_sub, Nat.add_zero]) | (simp (disch := omega) only [nI_add, nI_mul, setN_now, setN_put, nI_cl, Nat.add_zero]) | (refine hcall _ _ _ _ ?_; first | (refine r_isDigitHere ht hp (by omega) ?_) | fail))
    all_goals (try (exfalso; clear h0 h1 hX hcall hB eR; simp (disch := omega) only [cmpT, cmpF, bI_eq0, bI_ne0, Classical.not_not, nI_toI, alen23, setA_x, setA_y, setA_o, (id hp), ht.2.1, ht.1, nI_cl] at *; first | omega | contradiction))
    all_goals (try (clear h0 h1 hX hcall hB eR; simp (disch := omega) only [nI_toI, alen23]; omega))
    have stop : ∀ v q k u', numF T n p = (v, q) → v < 1000 → q ≤ 80 → u' 6 = nI q → (∀ k, k ≠ 6 → k ≠ 7 → u' k = u k) → ¬ (k < 3 ∧ 0 < v ∧ isDg T n q = true) → k ≤ 3 → X 41 [.inr (10, 0), .inl (nI lo), .inl (nI hi), .inl (nI p), .inl (nI v), .inl (nI k)] [] (setA s u') := by
      intro v q k u' hv hv2 hq hu hf hs hk
      by_cases hin : lo ≤ v ∧ v ≤ hi
      · have e : numR T n p lo hi = .inr (v, q) := by rw [eR, hv, if_pos hin]
        have h := h1 v q (putF u' 7 (nI v)) e hv2 hq (by rw [putF_ne _ _ (by omega)]; exact hu) (putF_at _ _ _) (fun k k1 k2 => by rw [putF_ne _ _ k2]; exact hf k k1 k2)
        clear h0 h1
        refine hX 1000 41 _ _ _ ?_
        repeat' (first | (intro hc) | (refine And.intro ?_ ?_) | (exact absurd nI_0 ‹cmpF 0 (nI 0) 0›) | (exact absurd ‹cmpT 0 (nI 1) 0› nI1_ne) | (exact absurd nI_0 ‹cmpT 1 (nI 0) 0›) | (exact absurd ‹cmpF 1 (nI 1) 0› nI1_ne) | (show wp _ _ _ _ _ _ _ _ _ _ _ _; conv => whnf) | (simp (disch := omega) only [setA_x, setA_y, setA_o, setA_put, hu, hn, hT, nI_cl, nI_add, nI_sub, Nat.add_zero]) | (simp (disch := omega) only [nI_add, nI_mul, setN_now, setN_put, nI_cl, Nat.add_zero]) | (refine hcall _ _ _ _ ?_; first | (refine r_isDigitHere ht hu (by omega) ?_) | (refine r_isIn ?_) | fail))
        all_goals first
          | exact h
          | exact Or.inl rfl
          | exact Or.inr rfl
          | (exfalso; clear h hX hcall hB eR e; simp (disch := omega) only [cmpT, cmpF, bI_eq0, bI_ne0, Classical.not_not, nI_toI] at *; (try simp (disch := omega) only [Int32.toInt_zero, nI_toI] at *); first | omega | exact hs ⟨by omega, by omega, by assumption⟩)
      · have e : numR T n p lo hi = .inl p := by rw [eR, hv, if_neg hin]
        have h := h0 p (putF (putF u' 7 (nI v)) 6 (nI p)) e (putF_at _ _ _) (fun k k1 k2 => by rw [putF_ne _ _ k1, putF_ne _ _ k2]; exact hf k k1 k2)
        clear h0 h1
        refine hX 1000 41 _ _ _ ?_
        repeat' (first | (intro hc) | (refine And.intro ?_ ?_) | (exact absurd nI_0 ‹cmpF 0 (nI 0) 0›) | (exact absurd ‹cmpT 0 (nI 1) 0› nI1_ne) | (exact absurd nI_0 ‹cmpT 1 (nI 0) 0›) | (exact absurd ‹cmpF 1 (nI 1) 0› nI1_ne) | (show wp _ _ _ _ _ _ _ _ _ _ _ _; conv => whnf) | (simp (disch := omega) only [setA_x, setA_y, setA_o, setA_put, hu, hn, hT, nI_cl, nI_add, nI_sub, Nat.add_zero]) | (simp (disch := omega) only [nI_add, nI_mul, setN_now, setN_put, nI_cl, Nat.add_zero]) | (refine hcall _ _ _ _ ?_; first | (refine r_isDigitHere ht hu (by omega) ?_) | (refine r_isIn ?_) | fail))
        all_goals first
          | exact h
          | exact Or.inl rfl
          | exact Or.inr rfl
          | (exfalso; clear h hX hcall hB eR e; simp (disch := omega) only [cmpT, cmpF, bI_eq0, bI_ne0, Classical.not_not, nI_toI] at *; (try simp (disch := omega) only [Int32.toInt_zero, nI_toI] at *); first | omega | exact hs ⟨by omega, by omega, by assumption⟩)
    have loop : ∀ m k v q u', k + m = 3 → (m = 2 → v < 10) → (m = 1 → v < 100) → v < 1000 → q ≤ 80 → u' 6 = nI q → (∀ k, k ≠ 6 → k ≠ 7 → u' k = u k) → numG T n m v q = numF T n p → m ≤ 2 → X 41 [.inr (10, 0), .inl (nI lo), .inl (nI hi), .inl (nI p), .inl (nI v), .inl (nI k)] [] (setA s u') := by
      clear h0 h1
      intro m
      induction m with
      | zero =>
        intro k v q u' hk g1 g2 g3 hq hu hf hg hm
        exact stop v q k u' hg.symm g3 hq hu hf (fun q => by omega) (by omega)
      | succ m ih =>
        intro k v q u' hk g1 g2 g3 hq hu hf hg hm
        by_cases hc : 0 < v ∧ isDg T n q = true
        · rw [numG_1 hc.1 hc.2] at hg
          obtain ⟨c1, c2, c3⟩ := isDg_1 hc.2
          have ih := ih (k + 1) (10 * v + T q - 48) (q + 1) (putF u' 6 (nI (q + 1))) (by omega) (by omega) (by omega) (by omega) (by omega) (putF_at _ _ _) (fun k k1 k2 => by rw [putF_ne _ _ k1]; exact hf k k1 k2) hg (by omega)
          clear stop
          have hc2 := hc.2
          refine hX 1000 41 _ _ _ ?_
          repeat' (first | (intro hc) | (refine And.intro ?_ ?_) | (exact absurd nI_0 ‹cmpF 0 (nI 0) 0›) | (exact absurd ‹cmpT 0 (nI 1) 0› nI1_ne) | (exact absurd nI_0 ‹cmpT 1 (nI 0) 0›) | (exact absurd ‹cmpF 1 (nI 1) 0› nI1_ne) | (show wp _ _ _ _ _ _ _ _ _ _ _ _; conv => whnf) | (simp (disch := omega) only [setA_x, setA_y, setA_o, setA_put, hu, hn, hT, nI_cl, nI_add, nI_mul, nI_sub, Nat.add_zero]) | (simp (disch := omega) only [nI_add, nI_mul, setN_now, setN_put, nI_cl, Nat.add_zero]) | (refine hcall _ _ _ _ ?_; first | (refine r_isDigitHere ht hu (by omega) ?_) | fail))
          all_goals first
            | (simp (disch := omega) only [takeL, setL, nI_add]; exact ih)
            | (clear hX hcall hB eR ih hg; simp (disch := omega) only [cmpT, cmpF, bI_eq0, bI_ne0, Classical.not_not, nI_toI, alen23] at *; (try simp (disch := omega) only [Int32.toInt_zero, nI_toI] at *); first | omega | contradiction)
        · rw [numG_0 hc] at hg
          exact stop v q k u' hg.symm g3 hq hu hf (fun q => hc q.2) (by omega)
    simp only [takeL, setL]
    exact loop 2 1 (T p - 48) (p + 1) _ (by omega) (by omega) (by omega) (by omega) (by omega) (putF_at _ _ _) (fun k k1 k2 => putF_ne _ _ k1) rfl (by omega)
  · have e : numR T n p lo hi = .inl p := if_neg hd
    have h := h0 p u e hp (fun _ _ _ => rfl)
    clear h0 h1
    intro call hcall X hX; refine hX 1000 0 _ _ _ ?_
    repeat' (first | (intro hc) | (refine And.intro ?_ ?_) | (exact absurd nI_0 ‹cmpF 0 (nI 0) 0›) | (exact absurd ‹cmpT 0 (nI 1) 0› nI1_ne) | (exact absurd nI_0 ‹cmpT 1 (nI 0) 0›) | (exact absurd ‹cmpF 1 (nI 1) 0› nI1_ne) | (show wp _ _ _ _ _ _ _ _ _ _ _ _; conv => whnf) | (simp (disch := omega) only [nI_add, nI_mul, setN_now, setN_put, nI_cl, Nat.add_zero]) | (refine hcall _ _ _ _ ?_; first | (refine r_isDigitHere ht hp (by omega) ?_) | fail))
    all_goals first
      | exact h
      | exact Or.inl rfl
      | exact Or.inr rfl
      | (exfalso; clear h hX hcall hB e; simp (disch := omega) only [cmpT, cmpF, bI_eq0, bI_ne0, Classical.not_not] at *; contradiction)
end REF26
