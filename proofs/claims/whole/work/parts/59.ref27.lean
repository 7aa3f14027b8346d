/-! THE TEXT: acts, read by the reference -/
section REF27
variable {L : Nat} {xs : Nat → Int32} {f i k r p q c j n B b w m lo hi : Nat} {x y v a z l name flow place : Int32} {s : St} {F G F' u : Fm} {T : Nat → Nat} {Q : Option MV → St → Prop}
theorem numG_q (hn : p ≤ n) : ∀ m k p, p ≤ n → p ≤ (numG T n m k p).2 ∧ (numG T n m k p).2 ≤ n := by
  intro m
  induction m with
  | zero => intro k p hp; exact ⟨Nat.le_refl _, hp⟩
  | succ m ih =>
    intro k p hp
    by_cases h : 0 < k ∧ isDg T n p = true
    · rw [numG_1 h.1 h.2]
      have := isDg_1 h.2
      have := ih (10 * k + T p - 48) (p + 1) (by omega)
      omega
    · rw [numG_0 h]
      exact ⟨Nat.le_refl _, hp⟩
theorem numR_b {v : Nat} (h : numR T n p lo hi = .inr (v, q)) : lo ≤ v ∧ v ≤ hi ∧ p < q ∧ q ≤ n := by
  unfold numR at h
  split at h
  · rename_i hd
    split at h
    · rename_i hin
      have e : numF T n p = (v, q) := Sum.inr.inj h
      rw [e] at hin
      obtain ⟨d1, d2, d3⟩ := isDg_1 hd
      have g := numG_q (T := T) (show p + 1 ≤ n by omega) 2 (T p - 48) (p + 1) (by omega)
      have e2 : numG T n 2 (T p - 48) (p + 1) = (v, q) := e
      rw [e2] at g
      exact ⟨hin.1, hin.2, by omega, g.2⟩
    · cases h
  · cases h
theorem sgnB_1 (h : sgnB T n p k = true) : p < n ∧ T p = k := of_decide_eq_true h
theorem sgnB_0 (h : sgnB T n p k = false) : ¬ (p < n ∧ T p = k) := of_decide_eq_false h
theorem r_pN_l (ht : txtR s T n) (hp : u 6 = nI p) (hp8 : p ≤ 80) (hlo : lo < 1000) (hhi : hi < 1000) (e : numR T n p lo hi = .inl q) (h : ∀ u', u' 6 = nI q → (∀ k, k ≠ 6 → k ≠ 7 → u' k = u k) → Q (some (.inl (nI 0))) (setA s u')) : wpM L xs codT retT (f + 3) m_X10_passesNumber [.inr (10, 0), .inl (nI lo), .inl (nI hi)] (setA s u) Q :=
  r_passesNumber ht hp hp8 hlo hhi (fun q' u' e' h6 hf => by rw [e] at e'; cases e'; exact h u' h6 hf) (fun v q' u' e' => by rw [e] at e'; cases e')
theorem r_pN_r {v : Nat} (ht : txtR s T n) (hp : u 6 = nI p) (hp8 : p ≤ 80) (hlo : lo < 1000) (hhi : hi < 1000) (e : numR T n p lo hi = .inr (v, q)) (h : ∀ u', u' 6 = nI q → u' 7 = nI v → (∀ k, k ≠ 6 → k ≠ 7 → u' k = u k) → Q (some (.inl (nI 1))) (setA s u')) : wpM L xs codT retT (f + 3) m_X10_passesNumber [.inr (10, 0), .inl (nI lo), .inl (nI hi)] (setA s u) Q :=
  r_passesNumber ht hp hp8 hlo hhi (fun q' u' e' => by rw [e] at e'; cases e') (fun v' q' u' e' _ _ h6 h7 hf => by rw [e] at e'; cases e'; exact h u' h6 h7 hf)
theorem r_pS_0 {t : Nat} (ht : txtR s T n) (hp : u 6 = nI p) (hp8 : p ≤ 80) (ht1 : t < 128) (e : sgnB T n p t = false) (h : Q (some (.inl (nI 0))) (setA s u)) : wpM L xs codT retT (f + 1) m_X10_passesSign [.inr (10, 0), .inl (nI t)] (setA s u) Q :=
  r_passesSign ht hp hp8 ht1 (fun _ => h) (fun e' => by rw [e] at e'; cases e')
theorem r_pS_1 {t : Nat} (ht : txtR s T n) (hp : u 6 = nI p) (hp8 : p ≤ 80) (ht1 : t < 128) (e : sgnB T n p t = true) (h : Q (some (.inl (nI 1))) (setA s (putF u 6 (nI (p + 1))))) : wpM L xs codT retT (f + 1) m_X10_passesSign [.inr (10, 0), .inl (nI t)] (setA s u) Q :=
  r_passesSign ht hp hp8 ht1 (fun e' => by rw [e] at e'; cases e') (fun _ => h)
theorem putF_e {i : Nat} (h : i = j) : putF u i x j = x := by rw [h]; exact putF_at _ _ _
set_option maxHeartbeats 4000000 in
set_option maxRecDepth 100000 in
theorem r_passesLetter (ht : txtR s T n) (hp : u 6 = nI p) (hp8 : p ≤ 80) (h0 : ∀ q u', letR T n p = .inl q → u' 6 = nI q → Q (some (.inl (nI 0))) (setA s u')) (h1 : ∀ a b c q u', letR T n p = .inr ((a, b, c), q) → u' 6 = nI q → u' 8 = u 8 → u' 9 = nI a → u' 10 = nI b → u' 11 = nI c → Q (some (.inl (nI 1))) (setA s u')) : wpM L xs codT retT (f + 4) m_X10_passesLetter [.inr (10, 0)] (setA s u) Q := by
  have h8 := ht.2.2.1
  cases e1 : numR T n p 0 3 with
  | inl q =>
    have eL : letR T n p = .inl q := by unfold letR; rw [e1]
    intro call hcall X hX; refine hX 1000 0 _ _ _ ?_
    repeat' (first | (intro hc) | (refine And.intro ?_ ?_) | (exact absurd nI_0 ‹cmpF 0 (nI 0) 0›) | (exact absurd ‹cmpT 0 (nI 1) 0› nI1_ne) | (exact absurd nI_0 ‹cmpT 1 (nI 0) 0›) | (exact absurd ‹cmpF 1 (nI 1) 0› nI1_ne) | (show wp _ _ _ _ _ _ _ _ _ _ _ _; conv => whnf) | (simp (disch := omega) only [nI_add, nI_mul, setN_now, setN_put, nI_cl, Nat.add_zero]) | (refine hcall _ _ _ _ ?_; first | (refine r_pN_l ht hp hp8 (by omega) (by omega) e1 (fun u1 a1 a3 => ?_)) | fail))
    all_goals first | exact Or.inl rfl | exact Or.inr rfl | exact h0 q u1 eL a1
  | inr w =>
    obtain ⟨a, p1⟩ := w
    have b1 := numR_b e1
    cases e2 : sgnB T n p1 110 with
    | false =>
      have eL : letR T n p = .inl p1 := by unfold letR; rw [e1]; show (if sgnB T n p1 110 = true then _ else _) = _; rw [e2]; rfl
      intro call hcall X hX; refine hX 1000 0 _ _ _ ?_
      repeat' (first | (intro hc) | (refine And.intro ?_ ?_) | (exact absurd nI_0 ‹cmpF 0 (nI 0) 0›) | (exact absurd ‹cmpT 0 (nI 1) 0› nI1_ne) | (exact absurd nI_0 ‹cmpT 1 (nI 0) 0›) | (exact absurd ‹cmpF 1 (nI 1) 0› nI1_ne) | (show wp _ _ _ _ _ _ _ _ _ _ _ _; conv => whnf) | (simp (disch := omega) only [setA_x, setA_put]) | (rw [a2]) | (simp (disch := omega) only [nI_add, nI_mul, setN_now, setN_put, nI_cl, Nat.add_zero]) | (refine hcall _ _ _ _ ?_; first | (refine r_pN_r ht hp hp8 (by omega) (by omega) e1 (fun u1 a1 a2 a3 => ?_)) | (refine r_pS_0 ht ((putF_ne _ _ (by omega)).trans a1) (by omega) (by omega) e2 ?_) | fail))
      all_goals first | exact Or.inl rfl | exact Or.inr rfl | exact h0 p1 _ eL ((putF_ne _ _ (by omega)).trans a1)
    | true =>
      have s2 := sgnB_1 e2
      cases e3 : numR T n (p1 + 1) 0 255 with
      | inl q =>
        have eL : letR T n p = .inl q := by unfold letR; rw [e1]; show (if sgnB T n p1 110 = true then _ else _) = _; rw [e2, e3]; rfl
        intro call hcall X hX; refine hX 1000 0 _ _ _ ?_
        repeat' (first | (intro hc) | (refine And.intro ?_ ?_) | (exact absurd nI_0 ‹cmpF 0 (nI 0) 0›) | (exact absurd ‹cmpT 0 (nI 1) 0› nI1_ne) | (exact absurd nI_0 ‹cmpT 1 (nI 0) 0›) | (exact absurd ‹cmpF 1 (nI 1) 0› nI1_ne) | (show wp _ _ _ _ _ _ _ _ _ _ _ _; conv => whnf) | (simp (disch := omega) only [setA_x, setA_put]) | (rw [a2]) | (simp (disch := omega) only [nI_add, nI_mul, setN_now, setN_put, nI_cl, Nat.add_zero]) | (refine hcall _ _ _ _ ?_; first | (refine r_pN_r ht hp hp8 (by omega) (by omega) e1 (fun u1 a1 a2 a3 => ?_)) | (refine r_pS_1 ht ((putF_ne _ _ (by omega)).trans a1) (by omega) (by omega) e2 ?_) | (refine r_pN_l ht (putF_at _ _ _) (by omega) (by omega) (by omega) e3 (fun u2 c1 c3 => ?_)) | fail))
        all_goals first | exact Or.inl rfl | exact Or.inr rfl | exact h0 q _ eL c1
      | inr w =>
        obtain ⟨b, p2⟩ := w
        have b2 := numR_b e3
        cases e4 : sgnB T n p2 102 with
        | false =>
          have eL : letR T n p = .inl p2 := by unfold letR; rw [e1]; show (if sgnB T n p1 110 = true then _ else _) = _; rw [e2, e3]; show (if sgnB T n p2 102 = true then _ else _) = _; rw [e4]; rfl
          intro call hcall X hX; refine hX 1000 0 _ _ _ ?_
          repeat' (first | (intro hc) | (refine And.intro ?_ ?_) | (exact absurd nI_0 ‹cmpF 0 (nI 0) 0›) | (exact absurd ‹cmpT 0 (nI 1) 0› nI1_ne) | (exact absurd nI_0 ‹cmpT 1 (nI 0) 0›) | (exact absurd ‹cmpF 1 (nI 1) 0› nI1_ne) | (show wp _ _ _ _ _ _ _ _ _ _ _ _; conv => whnf) | (simp (disch := omega) only [setA_x, setA_put]) | (rw [a2]) | (rw [c2]) | (simp (disch := omega) only [nI_add, nI_mul, setN_now, setN_put, nI_cl, Nat.add_zero]) | (refine hcall _ _ _ _ ?_; first | (refine r_pN_r ht hp hp8 (by omega) (by omega) e1 (fun u1 a1 a2 a3 => ?_)) | (refine r_pS_1 ht ((putF_ne _ _ (by omega)).trans a1) (by omega) (by omega) e2 ?_) | (refine r_pN_r ht (putF_at _ _ _) (by omega) (by omega) (by omega) e3 (fun u2 c1 c2 c3 => ?_)) | (refine r_pS_0 ht ((putF_ne _ _ (by omega)).trans c1) (by omega) (by omega) e4 ?_) | fail))
          all_goals first | exact Or.inl rfl | exact Or.inr rfl | exact h0 p2 _ eL ((putF_ne _ _ (by omega)).trans c1)
        | true =>
          have s4 := sgnB_1 e4
          cases e5 : numR T n (p2 + 1) 0 99 with
          | inl q =>
            have eL : letR T n p = .inl q := by unfold letR; rw [e1]; show (if sgnB T n p1 110 = true then _ else _) = _; rw [e2, e3]; show (if sgnB T n p2 102 = true then _ else _) = _; rw [e4, e5]; rfl
            intro call hcall X hX; refine hX 1000 0 _ _ _ ?_
            repeat' (first | (intro hc) | (refine And.intro ?_ ?_) | (exact absurd nI_0 ‹cmpF 0 (nI 0) 0›) | (exact absurd ‹cmpT 0 (nI 1) 0› nI1_ne) | (exact absurd nI_0 ‹cmpT 1 (nI 0) 0›) | (exact absurd ‹cmpF 1 (nI 1) 0› nI1_ne) | (show wp _ _ _ _ _ _ _ _ _ _ _ _; conv => whnf) | (simp (disch := omega) only [setA_x, setA_put]) | (rw [a2]) | (rw [c2]) | (simp (disch := omega) only [nI_add, nI_mul, setN_now, setN_put, nI_cl, Nat.add_zero]) | (refine hcall _ _ _ _ ?_; first | (refine r_pN_r ht hp hp8 (by omega) (by omega) e1 (fun u1 a1 a2 a3 => ?_)) | (refine r_pS_1 ht ((putF_ne _ _ (by omega)).trans a1) (by omega) (by omega) e2 ?_) | (refine r_pN_r ht (putF_at _ _ _) (by omega) (by omega) (by omega) e3 (fun u2 c1 c2 c3 => ?_)) | (refine r_pS_1 ht ((putF_ne _ _ (by omega)).trans c1) (by omega) (by omega) e4 ?_) | (refine r_pN_l ht (putF_at _ _ _) (by omega) (by omega) (by omega) e5 (fun u3 d1 d3 => ?_)) | fail))
            all_goals first | exact Or.inl rfl | exact Or.inr rfl | exact h0 q _ eL d1
          | inr w =>
            obtain ⟨c, p3⟩ := w
            have eL : letR T n p = .inr ((a, b, c), p3) := by unfold letR; rw [e1]; show (if sgnB T n p1 110 = true then _ else _) = _; rw [e2, e3]; show (if sgnB T n p2 102 = true then _ else _) = _; rw [e4, e5]; rfl
            intro call hcall X hX; refine hX 1000 0 _ _ _ ?_
            repeat' (first | (intro hc) | (refine And.intro ?_ ?_) | (exact absurd nI_0 ‹cmpF 0 (nI 0) 0›) | (exact absurd ‹cmpT 0 (nI 1) 0› nI1_ne) | (exact absurd nI_0 ‹cmpT 1 (nI 0) 0›) | (exact absurd ‹cmpF 1 (nI 1) 0› nI1_ne) | (show wp _ _ _ _ _ _ _ _ _ _ _ _; conv => whnf) | (simp (disch := omega) only [setA_x, setA_put]) | (rw [a2]) | (rw [c2]) | (rw [d2]) | (simp (disch := omega) only [nI_add, nI_mul, setN_now, setN_put, nI_cl, Nat.add_zero]) | (refine hcall _ _ _ _ ?_; first | (refine r_pN_r ht hp hp8 (by omega) (by omega) e1 (fun u1 a1 a2 a3 => ?_)) | (refine r_pS_1 ht ((putF_ne _ _ (by omega)).trans a1) (by omega) (by omega) e2 ?_) | (refine r_pN_r ht (putF_at _ _ _) (by omega) (by omega) (by omega) e3 (fun u2 c1 c2 c3 => ?_)) | (refine r_pS_1 ht ((putF_ne _ _ (by omega)).trans c1) (by omega) (by omega) e4 ?_) | (refine r_pN_r ht (putF_at _ _ _) (by omega) (by omega) (by omega) e5 (fun u3 d1 d2 d3 => ?_)) | fail))
            all_goals first | exact Or.inl rfl | exact Or.inr rfl | (refine h1 a b c p3 _ eL ?_ ?_ ?_ ?_ ?_ <;> simp (disch := omega) only [putF_ne, putF_e, a3, c3, d3, a1, c1, d1])
end REF27
