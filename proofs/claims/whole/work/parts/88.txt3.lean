/-! THE CLASS: letters of the text -/
section TXT3
variable {L : Nat} {xs : Nat → Int32} {f i k r p q j n B w m lo hi d t : Nat} {x y v z l name flow place : Int32} {s s' : St} {F G F' u : Fm} {T : Nat → Nat} {Q : Option MV → St → Prop}
theorem t_num_l (ht : txtC s T n) (hp : u 2 = nI p) (h3 : u 3 = -1) (hp8 : p ≤ 80) (hlo : lo < 1000) (hhi : hi < 1000) (e : numR T n p lo hi = .inl q) (h : ∀ x u', u' 3 = nI q → (∀ k, 4 ≤ k → u' k = u k) → Q (some (.inl x)) (setB s u')) : wpM L xs codT retT (f + 2) m_X0_readNumber [.inr (0, 0), .inl (nI lo), .inl (nI hi)] (setB s u) Q :=
  t_num ht hp h3 hp8 hlo hhi (fun q' x u' e' h6 hf => by rw [e] at e'; cases e'; exact h x u' h6 hf) (fun v q' u' e' => by rw [e] at e'; cases e')
theorem t_num_r {v : Nat} (ht : txtC s T n) (hp : u 2 = nI p) (h3 : u 3 = -1) (hp8 : p ≤ 80) (hlo : lo < 1000) (hhi : hi < 1000) (e : numR T n p lo hi = .inr (v, q)) (h : ∀ u', u' 2 = nI q → u' 3 = -1 → (∀ k, 4 ≤ k → u' k = u k) → Q (some (.inl (nI v))) (setB s u')) : wpM L xs codT retT (f + 2) m_X0_readNumber [.inr (0, 0), .inl (nI lo), .inl (nI hi)] (setB s u) Q :=
  t_num ht hp h3 hp8 hlo hhi (fun q' x u' e' => by rw [e] at e'; cases e') (fun v' q' u' e' h6 h7 hf => by rw [e] at e'; cases e'; exact h u' h6 h7 hf)
set_option maxHeartbeats 4000000 in
set_option maxRecDepth 100000 in
theorem t_sending (ht : txtC s T n) (hp : u 2 = nI p) (h3 : u 3 = -1) (hp8 : p ≤ 80) (e0 : sgnB T n p 115 = true) (h0 : ∀ q u', letR T n (p + 1) = .inl q → u' 3 = nI q → u' 4 = u 4 → Q none (setB s u')) (h1 : ∀ a b c q u', letR T n (p + 1) = .inr ((a, b, c), q) → u' 2 = nI q → u' 3 = -1 → u' 4 = u 4 → u' 5 = nI a → u' 6 = nI b → u' 7 = nI c → Q none (setB s u')) : wpM L xs codT retT (f + 3) m_X0_readSending [.inr (0, 0)] (setB s u) Q := by
  have h8 := ht.2.2.1
  have s0 := sgnB_1 e0
  cases e1 : numR T n (p + 1) 0 3 with
  | inl q =>
    have eL : letR T n (p + 1) = .inl q := by unfold letR; rw [e1]
    have hq := numR_l e1
    have hq1 : ¬ nI q = -1 := nI_m1n (by omega)
    intro call hcall X hX; refine hX 1000 0 _ _ _ ?_
    repeat' (first | (intro hc) | (refine And.intro ?_ ?_) | (exact absurd nI_0 ‹cmpF 0 (nI 0) 0›) | (exact absurd ‹cmpT 0 (nI 1) 0› nI1_ne) | (exact absurd nI_0 ‹cmpT 1 (nI 0) 0›) | (exact absurd ‹cmpF 1 (nI 1) 0› nI1_ne) | (show wp _ _ _ _ _ _ _ _ _ _ _ _; conv => whnf) | (simp (disch := omega) only [setB_put]) | (simp (disch := omega) only [nI_add, nI_mul, setN_now, setN_put, nI_cl, Nat.add_zero]) | (refine hcall _ _ _ _ ?_; first | (refine t_sign_1 ht hp h3 hp8 (by omega) e0 ?_) | (refine t_num_l ht (putF_at _ _ _) ((putF_ne _ _ (by omega)).trans h3) (by omega) (by omega) (by omega) e1 (fun x1 u1 a1 a3 => ?_)) | (refine t_sign_f (by simpa (disch := omega) only [putF_ne, a1] using hq1) ?_) | (refine t_num_f (by simpa (disch := omega) only [putF_ne, a1] using hq1) ?_) | fail))
    all_goals exact h0 q _ eL (by simp (disch := omega) only [putF_ne, a1]) (by simp (disch := omega) only [putF_ne, a3])
  | inr w =>
    obtain ⟨a, p1⟩ := w
    have b1 := numR_b e1
    cases e2 : sgnB T n p1 110 with
    | false =>
      have eL : letR T n (p + 1) = .inl p1 := by unfold letR; rw [e1]; show (if sgnB T n p1 110 = true then _ else _) = _; rw [e2]; rfl
      have hq1 : ¬ nI p1 = -1 := nI_m1n (by omega)
      intro call hcall X hX; refine hX 1000 0 _ _ _ ?_
      repeat' (first | (intro hc) | (refine And.intro ?_ ?_) | (exact absurd nI_0 ‹cmpF 0 (nI 0) 0›) | (exact absurd ‹cmpT 0 (nI 1) 0› nI1_ne) | (exact absurd nI_0 ‹cmpT 1 (nI 0) 0›) | (exact absurd ‹cmpF 1 (nI 1) 0› nI1_ne) | (show wp _ _ _ _ _ _ _ _ _ _ _ _; conv => whnf) | (simp (disch := omega) only [setB_put]) | (simp (disch := omega) only [nI_add, nI_mul, setN_now, setN_put, nI_cl, Nat.add_zero]) | (refine hcall _ _ _ _ ?_; first | (refine t_sign_1 ht hp h3 hp8 (by omega) e0 ?_) | (refine t_num_r ht (putF_at _ _ _) ((putF_ne _ _ (by omega)).trans h3) (by omega) (by omega) (by omega) e1 (fun u1 a1 a2 a3 => ?_)) | (refine t_sign_0 ht ((putF_ne _ _ (by omega)).trans a1) ((putF_ne _ _ (by omega)).trans a2) (by omega) (by omega) e2 ?_) | (refine t_sign_f (by simpa (disch := omega) only [putF_ne, putF_at] using hq1) ?_) | (refine t_num_f (by simpa (disch := omega) only [putF_ne, putF_at] using hq1) ?_) | fail))
      all_goals exact h0 p1 _ eL (by simp (disch := omega) only [putF_ne, putF_at]) (by simp (disch := omega) only [putF_ne, a3])
    | true =>
      have s2 := sgnB_1 e2
      cases e3 : numR T n (p1 + 1) 0 255 with
      | inl q =>
        have eL : letR T n (p + 1) = .inl q := by unfold letR; rw [e1]; show (if sgnB T n p1 110 = true then _ else _) = _; rw [e2, e3]; rfl
        have hq := numR_l e3
        have hq1 : ¬ nI q = -1 := nI_m1n (by omega)
        intro call hcall X hX; refine hX 1000 0 _ _ _ ?_
        repeat' (first | (intro hc) | (refine And.intro ?_ ?_) | (exact absurd nI_0 ‹cmpF 0 (nI 0) 0›) | (exact absurd ‹cmpT 0 (nI 1) 0› nI1_ne) | (exact absurd nI_0 ‹cmpT 1 (nI 0) 0›) | (exact absurd ‹cmpF 1 (nI 1) 0› nI1_ne) | (show wp _ _ _ _ _ _ _ _ _ _ _ _; conv => whnf) | (simp (disch := omega) only [setB_put]) | (simp (disch := omega) only [nI_add, nI_mul, setN_now, setN_put, nI_cl, Nat.add_zero]) | (refine hcall _ _ _ _ ?_; first | (refine t_sign_1 ht hp h3 hp8 (by omega) e0 ?_) | (refine t_num_r ht (putF_at _ _ _) ((putF_ne _ _ (by omega)).trans h3) (by omega) (by omega) (by omega) e1 (fun u1 a1 a2 a3 => ?_)) | (refine t_sign_1 ht ((putF_ne _ _ (by omega)).trans a1) ((putF_ne _ _ (by omega)).trans a2) (by omega) (by omega) e2 ?_) | (refine t_num_l ht (putF_at _ _ _) (by simp (disch := omega) only [putF_ne, a2]) (by omega) (by omega) (by omega) e3 (fun x2 u2 c1 c3 => ?_)) | (refine t_sign_f (by simpa (disch := omega) only [putF_ne, c1] using hq1) ?_) | (refine t_num_f (by simpa (disch := omega) only [putF_ne, c1] using hq1) ?_) | fail))
        all_goals exact h0 q _ eL (by simp (disch := omega) only [putF_ne, c1]) (by simp (disch := omega) only [putF_ne, c3, a3])
      | inr w =>
        obtain ⟨b, p2⟩ := w
        have b2 := numR_b e3
        cases e4 : sgnB T n p2 102 with
        | false =>
          have eL : letR T n (p + 1) = .inl p2 := by unfold letR; rw [e1]; show (if sgnB T n p1 110 = true then _ else _) = _; rw [e2, e3]; show (if sgnB T n p2 102 = true then _ else _) = _; rw [e4]; rfl
          have hq1 : ¬ nI p2 = -1 := nI_m1n (by omega)
          intro call hcall X hX; refine hX 1000 0 _ _ _ ?_
          repeat' (first | (intro hc) | (refine And.intro ?_ ?_) | (exact absurd nI_0 ‹cmpF 0 (nI 0) 0›) | (exact absurd ‹cmpT 0 (nI 1) 0› nI1_ne) | (exact absurd nI_0 ‹cmpT 1 (nI 0) 0›) | (exact absurd ‹cmpF 1 (nI 1) 0› nI1_ne) | (show wp _ _ _ _ _ _ _ _ _ _ _ _; conv => whnf) | (simp (disch := omega) only [setB_put]) | (simp (disch := omega) only [nI_add, nI_mul, setN_now, setN_put, nI_cl, Nat.add_zero]) | (refine hcall _ _ _ _ ?_; first | (refine t_sign_1 ht hp h3 hp8 (by omega) e0 ?_) | (refine t_num_r ht (putF_at _ _ _) ((putF_ne _ _ (by omega)).trans h3) (by omega) (by omega) (by omega) e1 (fun u1 a1 a2 a3 => ?_)) | (refine t_sign_1 ht ((putF_ne _ _ (by omega)).trans a1) ((putF_ne _ _ (by omega)).trans a2) (by omega) (by omega) e2 ?_) | (refine t_num_r ht (putF_at _ _ _) (by simp (disch := omega) only [putF_ne, a2]) (by omega) (by omega) (by omega) e3 (fun u2 c1 c2 c3 => ?_)) | (refine t_sign_0 ht ((putF_ne _ _ (by omega)).trans c1) ((putF_ne _ _ (by omega)).trans c2) (by omega) (by omega) e4 ?_) | (refine t_num_f (by simpa (disch := omega) only [putF_ne, putF_at] using hq1) ?_) | fail))
          all_goals exact h0 p2 _ eL (by simp (disch := omega) only [putF_ne, putF_at]) (by simp (disch := omega) only [putF_ne, c3, a3])
        | true =>
          have s4 := sgnB_1 e4
          cases e5 : numR T n (p2 + 1) 0 99 with
          | inl q =>
            have eL : letR T n (p + 1) = .inl q := by unfold letR; rw [e1]; show (if sgnB T n p1 110 = true then _ else _) = _; rw [e2, e3]; show (if sgnB T n p2 102 = true then _ else _) = _; rw [e4, e5]; rfl
            intro call hcall X hX; refine hX 1000 0 _ _ _ ?_
            repeat' (first | (intro hc) | (refine And.intro ?_ ?_) | (exact absurd nI_0 ‹cmpF 0 (nI 0) 0›) | (exact absurd ‹cmpT 0 (nI 1) 0› nI1_ne) | (exact absurd nI_0 ‹cmpT 1 (nI 0) 0›) | (exact absurd ‹cmpF 1 (nI 1) 0› nI1_ne) | (show wp _ _ _ _ _ _ _ _ _ _ _ _; conv => whnf) | (simp (disch := omega) only [setB_put]) | (simp (disch := omega) only [nI_add, nI_mul, setN_now, setN_put, nI_cl, Nat.add_zero]) | (refine hcall _ _ _ _ ?_; first | (refine t_sign_1 ht hp h3 hp8 (by omega) e0 ?_) | (refine t_num_r ht (putF_at _ _ _) ((putF_ne _ _ (by omega)).trans h3) (by omega) (by omega) (by omega) e1 (fun u1 a1 a2 a3 => ?_)) | (refine t_sign_1 ht ((putF_ne _ _ (by omega)).trans a1) ((putF_ne _ _ (by omega)).trans a2) (by omega) (by omega) e2 ?_) | (refine t_num_r ht (putF_at _ _ _) (by simp (disch := omega) only [putF_ne, a2]) (by omega) (by omega) (by omega) e3 (fun u2 c1 c2 c3 => ?_)) | (refine t_sign_1 ht ((putF_ne _ _ (by omega)).trans c1) ((putF_ne _ _ (by omega)).trans c2) (by omega) (by omega) e4 ?_) | (refine t_num_l ht (putF_at _ _ _) (by simp (disch := omega) only [putF_ne, c2]) (by omega) (by omega) (by omega) e5 (fun x3 u3 d1 d3 => ?_)) | fail))
            all_goals exact h0 q _ eL (by simp (disch := omega) only [putF_ne, d1]) (by simp (disch := omega) only [putF_ne, d3, c3, a3])
          | inr w =>
            obtain ⟨c, p3⟩ := w
            have eL : letR T n (p + 1) = .inr ((a, b, c), p3) := by unfold letR; rw [e1]; show (if sgnB T n p1 110 = true then _ else _) = _; rw [e2, e3]; show (if sgnB T n p2 102 = true then _ else _) = _; rw [e4, e5]; rfl
            intro call hcall X hX; refine hX 1000 0 _ _ _ ?_
            repeat' (first | (intro hc) | (refine And.intro ?_ ?_) | (exact absurd nI_0 ‹cmpF 0 (nI 0) 0›) | (exact absurd ‹cmpT 0 (nI 1) 0› nI1_ne) | (exact absurd nI_0 ‹cmpT 1 (nI 0) 0›) | (exact absurd ‹cmpF 1 (nI 1) 0› nI1_ne) | (show wp _ _ _ _ _ _ _ _ _ _ _ _; conv => whnf) | (simp (disch := omega) only [setB_put]) | (simp (disch := omega) only [nI_add, nI_mul, setN_now, setN_put, nI_cl, Nat.add_zero]) | (refine hcall _ _ _ _ ?_; first | (refine t_sign_1 ht hp h3 hp8 (by omega) e0 ?_) | (refine t_num_r ht (putF_at _ _ _) ((putF_ne _ _ (by omega)).trans h3) (by omega) (by omega) (by omega) e1 (fun u1 a1 a2 a3 => ?_)) | (refine t_sign_1 ht ((putF_ne _ _ (by omega)).trans a1) ((putF_ne _ _ (by omega)).trans a2) (by omega) (by omega) e2 ?_) | (refine t_num_r ht (putF_at _ _ _) (by simp (disch := omega) only [putF_ne, a2]) (by omega) (by omega) (by omega) e3 (fun u2 c1 c2 c3 => ?_)) | (refine t_sign_1 ht ((putF_ne _ _ (by omega)).trans c1) ((putF_ne _ _ (by omega)).trans c2) (by omega) (by omega) e4 ?_) | (refine t_num_r ht (putF_at _ _ _) (by simp (disch := omega) only [putF_ne, c2]) (by omega) (by omega) (by omega) e5 (fun u3 d1 d2 d3 => ?_)) | fail))
            all_goals (refine h1 a b c p3 _ eL ?_ ?_ ?_ ?_ ?_ ?_ <;> simp (disch := omega) only [putF_ne, putF_at, d1, d2, d3, c3, a3])
end TXT3
