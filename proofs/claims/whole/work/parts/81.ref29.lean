/-! THE TEXT: acts of one number, by the reference -/
section REF29
variable {L : Nat} {xs : Nat → Int32} {f i k r p q c j n B b w m lo hi : Nat} {x y v a z l name flow place : Int32} {s : St} {F G F' u : Fm} {T : Nat → Nat} {Q : Option MV → St → Prop}
theorem sgnB_n {t : Nat} (h : T p ≠ t) : ¬ sgnB T n p t = true := fun q => h (sgnB_1 q).2
set_option maxHeartbeats 4000000 in
set_option maxRecDepth 100000 in
theorem r_act_t (ht : txtR s T n) (hp : u 6 = nI p) (hs : sgnB T n p 116 = true) (h0 : ∀ q u', actR T n p = .inl q → u' 6 = nI q → Q (some (.inl (nI 0))) (setA s u')) (h1 : ∀ t a b c q u', actR T n p = .inr ((t, a, b, c), q) → u' 6 = nI q → u' 8 = nI t → u' 9 = nI a → (t = 115 → u' 10 = nI b ∧ u' 11 = nI c) → Q (some (.inl (nI 1))) (setA s u')) : wpM L xs codT retT (f + 5) m_X10_passesAct [.inr (10, 0)] (setA s u) Q := by
  obtain ⟨hT, hn, h8, hB⟩ := id ht
  obtain ⟨s1, s2⟩ := sgnB_1 hs
  have hTp : s.1 23 0 p = nI 116 := by rw [hT p s1, s2]
  have hno115 : ¬ sgnB T n p 115 = true := sgnB_n (by omega)
  have eO : actR T n p = oneR T n p 116 1 99 := by unfold actR; rw [if_neg hno115, if_pos hs]
  have e8 : (putV (setA s u) 10 0 8 ((setA s u).1 23 0 ((setA s u).1 10 0 6).toNatClampNeg)).1 10 0 8 = nI 116 := by rw [putV_at, setA_x (by omega), hp, nI_cl (by omega), setA_o (by omega), hTp]
  have go : ∀ X : Nat → List MV → List MV → St → Prop, (∀ u', u' 6 = nI p → u' 8 = nI 116 → X 66 [.inr (10, 0)] [] (setA s u')) → ∀ u', u' = putF u 8 (nI 116) → X 66 [.inr (10, 0)] [] (setA s u') := fun X h u' hu => h u' (by rw [hu, putF_ne _ _ (by omega)]; exact hp) (by rw [hu, putF_at])
  intro call hcall X hX; refine hX 1000 0 _ _ _ ?_
  repeat' (first | (intro hc) | (refine And.intro ?_ ?_) | (exact absurd nI_0 ‹cmpF 0 (nI 0) 0›) | (exact absurd ‹cmpT 0 (nI 1) 0› nI1_ne) | (exact absurd nI_0 ‹cmpT 1 (nI 0) 0›) | (exact absurd ‹cmpF 1 (nI 1) 0› nI1_ne) | (show wp _ _ _ _ _ _ _ _ _ _ _ _; conv => whnf) | (simp (disch := omega) only [setA_x, setA_y, setA_o, setA_put, hp, hn, hTp, nI_cl, nI_add, Nat.add_zero, putF_at, putF_ne]))
  all_goals (try (exact absurd e8 (by assumption)))
  all_goals (try (exact absurd (e8.symm.trans (by assumption : (putV (setA s u) 10 0 8 ((setA s u).1 23 0 ((setA s u).1 10 0 6).toNatClampNeg)).1 10 0 8 = nI 115)) (nI_ne (by omega) (by omega) (by omega))))
  all_goals (try (exact absurd (e8.symm.trans (by assumption : (putV (setA s u) 10 0 8 ((setA s u).1 23 0 ((setA s u).1 10 0 6).toNatClampNeg)).1 10 0 8 = nI 114)) (nI_ne (by omega) (by omega) (by omega))))
  all_goals (try (exact absurd (e8.symm.trans (by assumption : (putV (setA s u) 10 0 8 ((setA s u).1 23 0 ((setA s u).1 10 0 6).toNatClampNeg)).1 10 0 8 = nI 117)) (nI_ne (by omega) (by omega) (by omega))))
  all_goals (try (exact absurd (e8.symm.trans (by assumption : (putV (setA s u) 10 0 8 ((setA s u).1 23 0 ((setA s u).1 10 0 6).toNatClampNeg)).1 10 0 8 = nI 116)) (nI_ne (by omega) (by omega) (by omega))))
  all_goals (try (exfalso; clear h0 h1 hX hcall hB go hT ht hs e8; simp (disch := omega) only [cmpT, cmpF, nI_toI, setA_x, setA_y, (id hp), (id hn)] at * <;> omega))
  all_goals (try (clear h0 h1 hX hcall hB go hT ht hs eO; simp (disch := omega) only [nI_toI, alen23]; omega))
  all_goals (try exact Or.inl rfl)
  (try simp only [takeL, setL])
  refine go X (fun u1 p1 p2 => ?_) _ rfl
  clear go
  have e9 : (putV (setA s u1) 10 0 6 ((setA s u1).1 10 0 6 + nI 1)).1 10 0 8 = nI 116 := by rw [putV_ne (by omega), setA_x (by omega), p2]
  cases e1 : numR T n (p + 1) 1 99 with
  | inl q =>
    have eA : actR T n p = .inl q := by rw [eO]; unfold oneR; rw [e1]
    have h := fun u' a1 => h0 q u' eA a1
    clear h0 h1
    refine hX 1000 66 _ _ _ ?_
    repeat' (first | (intro hc) | (refine And.intro ?_ ?_) | (exact absurd nI_0 ‹cmpF 0 (nI 0) 0›) | (exact absurd ‹cmpT 0 (nI 1) 0› nI1_ne) | (exact absurd nI_0 ‹cmpT 1 (nI 0) 0›) | (exact absurd ‹cmpF 1 (nI 1) 0› nI1_ne) | (show wp _ _ _ _ _ _ _ _ _ _ _ _; conv => whnf) | (simp (disch := omega) only [setA_x, setA_y, setA_o, setA_put, p1, p2, hn, nI_cl, nI_add, Nat.add_zero, putF_at, putF_ne]) | (rw [a3 8 (by omega) (by omega)]) | (simp (disch := omega) only [nI_add, nI_mul, setN_now, setN_put, nI_cl, Nat.add_zero]) | (refine hcall _ _ _ _ ?_; first | (refine r_pN_l ht (putF_at _ _ _) (by omega) (by omega) (by omega) e1 (fun u2 a1 a3 => ?_)) | fail))
    all_goals first
      | exact Or.inl rfl
      | exact Or.inr rfl
      | exact absurd e9 (by assumption)
      | exact absurd (e9.symm.trans (by assumption : (putV (setA s u1) 10 0 6 ((setA s u1).1 10 0 6 + nI 1)).1 10 0 8 = nI 115)) (nI_ne (by omega) (by omega) (by omega))
      | exact absurd (e9.symm.trans (by assumption : (putV (setA s u1) 10 0 6 ((setA s u1).1 10 0 6 + nI 1)).1 10 0 8 = nI 116)) (nI_ne (by omega) (by omega) (by omega))
      | skip
    all_goals ((try simp only [takeL, setL]); refine hX 1000 128 _ _ _ ?_)
    repeat' (first | (intro hc) | (refine And.intro ?_ ?_) | (exact absurd nI_0 ‹cmpF 0 (nI 0) 0›) | (exact absurd ‹cmpT 0 (nI 1) 0› nI1_ne) | (exact absurd nI_0 ‹cmpT 1 (nI 0) 0›) | (exact absurd ‹cmpF 1 (nI 1) 0› nI1_ne) | (show wp _ _ _ _ _ _ _ _ _ _ _ _; conv => whnf))
    all_goals first
      | exact Or.inl rfl
      | exact Or.inr rfl
      | exact h _ a1
      | exact h _ ((putF_ne _ _ (by omega)).trans a1)
  | inr w =>
    obtain ⟨a, p3⟩ := w
    have bl := numR_b e1
    cases e2 : sgnB T n p3 59 with
    | false =>
      have eA : actR T n p = .inl p3 := by
        rw [eO]; unfold oneR; rw [e1]
        show (if sgnB T n p3 59 = true then _ else _) = _
        rw [e2]; rfl
      have h := fun u' a1 => h0 p3 u' eA a1
      clear h0 h1
      refine hX 1000 66 _ _ _ ?_
      repeat' (first | (intro hc) | (refine And.intro ?_ ?_) | (exact absurd nI_0 ‹cmpF 0 (nI 0) 0›) | (exact absurd ‹cmpT 0 (nI 1) 0› nI1_ne) | (exact absurd nI_0 ‹cmpT 1 (nI 0) 0›) | (exact absurd ‹cmpF 1 (nI 1) 0› nI1_ne) | (show wp _ _ _ _ _ _ _ _ _ _ _ _; conv => whnf) | (simp (disch := omega) only [setA_x, setA_y, setA_o, setA_put, p1, p2, hn, nI_cl, nI_add, Nat.add_zero, putF_at, putF_ne]) | (rw [a2]) | (simp (disch := omega) only [nI_add, nI_mul, setN_now, setN_put, nI_cl, Nat.add_zero]) | (refine hcall _ _ _ _ ?_; first | (refine r_pN_r ht (putF_at _ _ _) (by omega) (by omega) (by omega) e1 (fun u2 a1 a2 a3 => ?_)) | fail))
      all_goals first
        | exact Or.inl rfl
        | exact Or.inr rfl
        | exact absurd e9 (by assumption)
        | exact absurd (e9.symm.trans (by assumption : (putV (setA s u1) 10 0 6 ((setA s u1).1 10 0 6 + nI 1)).1 10 0 8 = nI 115)) (nI_ne (by omega) (by omega) (by omega))
        | exact absurd (e9.symm.trans (by assumption : (putV (setA s u1) 10 0 6 ((setA s u1).1 10 0 6 + nI 1)).1 10 0 8 = nI 116)) (nI_ne (by omega) (by omega) (by omega))
        | skip
      all_goals ((try simp only [takeL, setL]); refine hX 1000 128 _ _ _ ?_)
      repeat' (first | (intro hc) | (refine And.intro ?_ ?_) | (exact absurd nI_0 ‹cmpF 0 (nI 0) 0›) | (exact absurd ‹cmpT 0 (nI 1) 0› nI1_ne) | (exact absurd nI_0 ‹cmpT 1 (nI 0) 0›) | (exact absurd ‹cmpF 1 (nI 1) 0› nI1_ne) | (show wp _ _ _ _ _ _ _ _ _ _ _ _; conv => whnf) | (simp (disch := omega) only [nI_add, nI_mul, setN_now, setN_put, nI_cl, Nat.add_zero]) | (refine hcall _ _ _ _ ?_; first | (refine r_pS_0 ht ((putF_ne _ _ (by omega)).trans a1) (by omega) (by omega) e2 ?_) | fail))
      all_goals first
        | exact Or.inl rfl
        | exact Or.inr rfl
        | exact h _ ((putF_ne _ _ (by omega)).trans a1)
    | true =>
      have eA : actR T n p = .inr ((116, a, 0, 0), p3 + 1) := by
        rw [eO]; unfold oneR; rw [e1]
        show (if sgnB T n p3 59 = true then _ else _) = _
        rw [e2]; rfl
      have h := fun u' => h1 116 a 0 0 (p3 + 1) u' eA
      clear h0 h1
      refine hX 1000 66 _ _ _ ?_
      repeat' (first | (intro hc) | (refine And.intro ?_ ?_) | (exact absurd nI_0 ‹cmpF 0 (nI 0) 0›) | (exact absurd ‹cmpT 0 (nI 1) 0› nI1_ne) | (exact absurd nI_0 ‹cmpT 1 (nI 0) 0›) | (exact absurd ‹cmpF 1 (nI 1) 0› nI1_ne) | (show wp _ _ _ _ _ _ _ _ _ _ _ _; conv => whnf) | (simp (disch := omega) only [setA_x, setA_y, setA_o, setA_put, p1, p2, hn, nI_cl, nI_add, Nat.add_zero, putF_at, putF_ne]) | (rw [a2]) | (simp (disch := omega) only [nI_add, nI_mul, setN_now, setN_put, nI_cl, Nat.add_zero]) | (refine hcall _ _ _ _ ?_; first | (refine r_pN_r ht (putF_at _ _ _) (by omega) (by omega) (by omega) e1 (fun u2 a1 a2 a3 => ?_)) | fail))
      all_goals first
        | exact Or.inl rfl
        | exact Or.inr rfl
        | exact absurd e9 (by assumption)
        | exact absurd (e9.symm.trans (by assumption : (putV (setA s u1) 10 0 6 ((setA s u1).1 10 0 6 + nI 1)).1 10 0 8 = nI 115)) (nI_ne (by omega) (by omega) (by omega))
        | exact absurd (e9.symm.trans (by assumption : (putV (setA s u1) 10 0 6 ((setA s u1).1 10 0 6 + nI 1)).1 10 0 8 = nI 116)) (nI_ne (by omega) (by omega) (by omega))
        | skip
      all_goals ((try simp only [takeL, setL]); refine hX 1000 128 _ _ _ ?_)
      repeat' (first | (intro hc) | (refine And.intro ?_ ?_) | (exact absurd nI_0 ‹cmpF 0 (nI 0) 0›) | (exact absurd ‹cmpT 0 (nI 1) 0› nI1_ne) | (exact absurd nI_0 ‹cmpT 1 (nI 0) 0›) | (exact absurd ‹cmpF 1 (nI 1) 0› nI1_ne) | (show wp _ _ _ _ _ _ _ _ _ _ _ _; conv => whnf) | (simp (disch := omega) only [nI_add, nI_mul, setN_now, setN_put, nI_cl, Nat.add_zero]) | (refine hcall _ _ _ _ ?_; first | (refine r_pS_1 ht ((putF_ne _ _ (by omega)).trans a1) (by omega) (by omega) e2 ?_) | fail))
      all_goals first
        | exact Or.inl rfl
        | exact Or.inr rfl
        | (refine h _ (putF_at _ _ _) ?_ ?_ (fun q0 => absurd q0 (by omega)) <;> simp (disch := omega) only [putF_ne, putF_at, a1, a2, a3, p2])
set_option maxHeartbeats 4000000 in
set_option maxRecDepth 100000 in
theorem r_act_r (ht : txtR s T n) (hp : u 6 = nI p) (hs : sgnB T n p 114 = true) (h0 : ∀ q u', actR T n p = .inl q → u' 6 = nI q → Q (some (.inl (nI 0))) (setA s u')) (h1 : ∀ t a b c q u', actR T n p = .inr ((t, a, b, c), q) → u' 6 = nI q → u' 8 = nI t → u' 9 = nI a → (t = 115 → u' 10 = nI b ∧ u' 11 = nI c) → Q (some (.inl (nI 1))) (setA s u')) : wpM L xs codT retT (f + 5) m_X10_passesAct [.inr (10, 0)] (setA s u) Q := by
  obtain ⟨hT, hn, h8, hB⟩ := id ht
  obtain ⟨s1, s2⟩ := sgnB_1 hs
  have hTp : s.1 23 0 p = nI 114 := by rw [hT p s1, s2]
  have hno115 : ¬ sgnB T n p 115 = true := sgnB_n (by omega)
  have hno116 : ¬ sgnB T n p 116 = true := sgnB_n (by omega)
  have eO : actR T n p = oneR T n p 114 0 7 := by unfold actR; rw [if_neg hno115, if_neg hno116, if_pos hs]
  have e8 : (putV (setA s u) 10 0 8 ((setA s u).1 23 0 ((setA s u).1 10 0 6).toNatClampNeg)).1 10 0 8 = nI 114 := by rw [putV_at, setA_x (by omega), hp, nI_cl (by omega), setA_o (by omega), hTp]
  have go : ∀ X : Nat → List MV → List MV → St → Prop, (∀ u', u' 6 = nI p → u' 8 = nI 114 → X 66 [.inr (10, 0)] [] (setA s u')) → ∀ u', u' = putF u 8 (nI 114) → X 66 [.inr (10, 0)] [] (setA s u') := fun X h u' hu => h u' (by rw [hu, putF_ne _ _ (by omega)]; exact hp) (by rw [hu, putF_at])
  intro call hcall X hX; refine hX 1000 0 _ _ _ ?_
  repeat' (first | (intro hc) | (refine And.intro ?_ ?_) | (exact absurd nI_0 ‹cmpF 0 (nI 0) 0›) | (exact absurd ‹cmpT 0 (nI 1) 0› nI1_ne) | (exact absurd nI_0 ‹cmpT 1 (nI 0) 0›) | (exact absurd ‹cmpF 1 (nI 1) 0› nI1_ne) | (show wp _ _ _ _ _ _ _ _ _ _ _ _; conv => whnf) | (simp (disch := omega) only [setA_x, setA_y, setA_o, setA_put, hp, hn, hTp, nI_cl, nI_add, Nat.add_zero, putF_at, putF_ne]))
  all_goals (try (exact absurd e8 (by assumption)))
  all_goals (try (exact absurd (e8.symm.trans (by assumption : (putV (setA s u) 10 0 8 ((setA s u).1 23 0 ((setA s u).1 10 0 6).toNatClampNeg)).1 10 0 8 = nI 115)) (nI_ne (by omega) (by omega) (by omega))))
  all_goals (try (exact absurd (e8.symm.trans (by assumption : (putV (setA s u) 10 0 8 ((setA s u).1 23 0 ((setA s u).1 10 0 6).toNatClampNeg)).1 10 0 8 = nI 114)) (nI_ne (by omega) (by omega) (by omega))))
  all_goals (try (exact absurd (e8.symm.trans (by assumption : (putV (setA s u) 10 0 8 ((setA s u).1 23 0 ((setA s u).1 10 0 6).toNatClampNeg)).1 10 0 8 = nI 117)) (nI_ne (by omega) (by omega) (by omega))))
  all_goals (try (exact absurd (e8.symm.trans (by assumption : (putV (setA s u) 10 0 8 ((setA s u).1 23 0 ((setA s u).1 10 0 6).toNatClampNeg)).1 10 0 8 = nI 116)) (nI_ne (by omega) (by omega) (by omega))))
  all_goals (try (exfalso; clear h0 h1 hX hcall hB go hT ht hs e8; simp (disch := omega) only [cmpT, cmpF, nI_toI, setA_x, setA_y, (id hp), (id hn)] at * <;> omega))
  all_goals (try (clear h0 h1 hX hcall hB go hT ht hs eO; simp (disch := omega) only [nI_toI, alen23]; omega))
  all_goals (try exact Or.inl rfl)
  (try simp only [takeL, setL])
  refine go X (fun u1 p1 p2 => ?_) _ rfl
  clear go
  have e9 : (putV (setA s u1) 10 0 6 ((setA s u1).1 10 0 6 + nI 1)).1 10 0 8 = nI 114 := by rw [putV_ne (by omega), setA_x (by omega), p2]
  cases e1 : numR T n (p + 1) 0 7 with
  | inl q =>
    have eA : actR T n p = .inl q := by rw [eO]; unfold oneR; rw [e1]
    have h := fun u' a1 => h0 q u' eA a1
    clear h0 h1
    refine hX 1000 66 _ _ _ ?_
    repeat' (first | (intro hc) | (refine And.intro ?_ ?_) | (exact absurd nI_0 ‹cmpF 0 (nI 0) 0›) | (exact absurd ‹cmpT 0 (nI 1) 0› nI1_ne) | (exact absurd nI_0 ‹cmpT 1 (nI 0) 0›) | (exact absurd ‹cmpF 1 (nI 1) 0› nI1_ne) | (show wp _ _ _ _ _ _ _ _ _ _ _ _; conv => whnf) | (simp (disch := omega) only [setA_x, setA_y, setA_o, setA_put, p1, p2, hn, nI_cl, nI_add, Nat.add_zero, putF_at, putF_ne]) | (rw [a3 8 (by omega) (by omega)]) | (simp (disch := omega) only [nI_add, nI_mul, setN_now, setN_put, nI_cl, Nat.add_zero]) | (refine hcall _ _ _ _ ?_; first | (refine r_pN_l ht (putF_at _ _ _) (by omega) (by omega) (by omega) e1 (fun u2 a1 a3 => ?_)) | fail))
    all_goals first
      | exact Or.inl rfl
      | exact Or.inr rfl
      | exact absurd e9 (by assumption)
      | exact absurd (e9.symm.trans (by assumption : (putV (setA s u1) 10 0 6 ((setA s u1).1 10 0 6 + nI 1)).1 10 0 8 = nI 115)) (nI_ne (by omega) (by omega) (by omega))
      | exact absurd (e9.symm.trans (by assumption : (putV (setA s u1) 10 0 6 ((setA s u1).1 10 0 6 + nI 1)).1 10 0 8 = nI 116)) (nI_ne (by omega) (by omega) (by omega))
      | skip
    all_goals ((try simp only [takeL, setL]); refine hX 1000 128 _ _ _ ?_)
    repeat' (first | (intro hc) | (refine And.intro ?_ ?_) | (exact absurd nI_0 ‹cmpF 0 (nI 0) 0›) | (exact absurd ‹cmpT 0 (nI 1) 0› nI1_ne) | (exact absurd nI_0 ‹cmpT 1 (nI 0) 0›) | (exact absurd ‹cmpF 1 (nI 1) 0› nI1_ne) | (show wp _ _ _ _ _ _ _ _ _ _ _ _; conv => whnf))
    all_goals first
      | exact Or.inl rfl
      | exact Or.inr rfl
      | exact h _ a1
      | exact h _ ((putF_ne _ _ (by omega)).trans a1)
  | inr w =>
    obtain ⟨a, p3⟩ := w
    have bl := numR_b e1
    cases e2 : sgnB T n p3 59 with
    | false =>
      have eA : actR T n p = .inl p3 := by
        rw [eO]; unfold oneR; rw [e1]
        show (if sgnB T n p3 59 = true then _ else _) = _
        rw [e2]; rfl
      have h := fun u' a1 => h0 p3 u' eA a1
      clear h0 h1
      refine hX 1000 66 _ _ _ ?_
      repeat' (first | (intro hc) | (refine And.intro ?_ ?_) | (exact absurd nI_0 ‹cmpF 0 (nI 0) 0›) | (exact absurd ‹cmpT 0 (nI 1) 0› nI1_ne) | (exact absurd nI_0 ‹cmpT 1 (nI 0) 0›) | (exact absurd ‹cmpF 1 (nI 1) 0› nI1_ne) | (show wp _ _ _ _ _ _ _ _ _ _ _ _; conv => whnf) | (simp (disch := omega) only [setA_x, setA_y, setA_o, setA_put, p1, p2, hn, nI_cl, nI_add, Nat.add_zero, putF_at, putF_ne]) | (rw [a2]) | (simp (disch := omega) only [nI_add, nI_mul, setN_now, setN_put, nI_cl, Nat.add_zero]) | (refine hcall _ _ _ _ ?_; first | (refine r_pN_r ht (putF_at _ _ _) (by omega) (by omega) (by omega) e1 (fun u2 a1 a2 a3 => ?_)) | fail))
      all_goals first
        | exact Or.inl rfl
        | exact Or.inr rfl
        | exact absurd e9 (by assumption)
        | exact absurd (e9.symm.trans (by assumption : (putV (setA s u1) 10 0 6 ((setA s u1).1 10 0 6 + nI 1)).1 10 0 8 = nI 115)) (nI_ne (by omega) (by omega) (by omega))
        | exact absurd (e9.symm.trans (by assumption : (putV (setA s u1) 10 0 6 ((setA s u1).1 10 0 6 + nI 1)).1 10 0 8 = nI 116)) (nI_ne (by omega) (by omega) (by omega))
        | skip
      all_goals ((try simp only [takeL, setL]); refine hX 1000 128 _ _ _ ?_)
      repeat' (first | (intro hc) | (refine And.intro ?_ ?_) | (exact absurd nI_0 ‹cmpF 0 (nI 0) 0›) | (exact absurd ‹cmpT 0 (nI 1) 0› nI1_ne) | (exact absurd nI_0 ‹cmpT 1 (nI 0) 0›) | (exact absurd ‹cmpF 1 (nI 1) 0› nI1_ne) | (show wp _ _ _ _ _ _ _ _ _ _ _ _; conv => whnf) | (simp (disch := omega) only [nI_add, nI_mul, setN_now, setN_put, nI_cl, Nat.add_zero]) | (refine hcall _ _ _ _ ?_; first | (refine r_pS_0 ht ((putF_ne _ _ (by omega)).trans a1) (by omega) (by omega) e2 ?_) | fail))
      all_goals first
        | exact Or.inl rfl
        | exact Or.inr rfl
        | exact h _ ((putF_ne _ _ (by omega)).trans a1)
    | true =>
      have eA : actR T n p = .inr ((114, a, 0, 0), p3 + 1) := by
        rw [eO]; unfold oneR; rw [e1]
        show (if sgnB T n p3 59 = true then _ else _) = _
        rw [e2]; rfl
      have h := fun u' => h1 114 a 0 0 (p3 + 1) u' eA
      clear h0 h1
      refine hX 1000 66 _ _ _ ?_
      repeat' (first | (intro hc) | (refine And.intro ?_ ?_) | (exact absurd nI_0 ‹cmpF 0 (nI 0) 0›) | (exact absurd ‹cmpT 0 (nI 1) 0› nI1_ne) | (exact absurd nI_0 ‹cmpT 1 (nI 0) 0›) | (exact absurd ‹cmpF 1 (nI 1) 0› nI1_ne) | (show wp _ _ _ _ _ _ _ _ _ _ _ _; conv => whnf) | (simp (disch := omega) only [setA_x, setA_y, setA_o, setA_put, p1, p2, hn, nI_cl, nI_add, Nat.add_zero, putF_at, putF_ne]) | (rw [a2]) | (simp (disch := omega) only [nI_add, nI_mul, setN_now, setN_put, nI_cl, Nat.add_zero]) | (refine hcall _ _ _ _ ?_; first | (refine r_pN_r ht (putF_at _ _ _) (by omega) (by omega) (by omega) e1 (fun u2 a1 a2 a3 => ?_)) | fail))
      all_goals first
        | exact Or.inl rfl
        | exact Or.inr rfl
        | exact absurd e9 (by assumption)
        | exact absurd (e9.symm.trans (by assumption : (putV (setA s u1) 10 0 6 ((setA s u1).1 10 0 6 + nI 1)).1 10 0 8 = nI 115)) (nI_ne (by omega) (by omega) (by omega))
        | exact absurd (e9.symm.trans (by assumption : (putV (setA s u1) 10 0 6 ((setA s u1).1 10 0 6 + nI 1)).1 10 0 8 = nI 116)) (nI_ne (by omega) (by omega) (by omega))
        | skip
      all_goals ((try simp only [takeL, setL]); refine hX 1000 128 _ _ _ ?_)
      repeat' (first | (intro hc) | (refine And.intro ?_ ?_) | (exact absurd nI_0 ‹cmpF 0 (nI 0) 0›) | (exact absurd ‹cmpT 0 (nI 1) 0› nI1_ne) | (exact absurd nI_0 ‹cmpT 1 (nI 0) 0›) | (exact absurd ‹cmpF 1 (nI 1) 0› nI1_ne) | (show wp _ _ _ _ _ _ _ _ _ _ _ _; conv => whnf) | (simp (disch := omega) only [nI_add, nI_mul, setN_now, setN_put, nI_cl, Nat.add_zero]) | (refine hcall _ _ _ _ ?_; first | (refine r_pS_1 ht ((putF_ne _ _ (by omega)).trans a1) (by omega) (by omega) e2 ?_) | fail))
      all_goals first
        | exact Or.inl rfl
        | exact Or.inr rfl
        | (refine h _ (putF_at _ _ _) ?_ ?_ (fun q0 => absurd q0 (by omega)) <;> simp (disch := omega) only [putF_ne, putF_at, a1, a2, a3, p2])
set_option maxHeartbeats 4000000 in
set_option maxRecDepth 100000 in
theorem r_act_u (ht : txtR s T n) (hp : u 6 = nI p) (hs : sgnB T n p 117 = true) (h0 : ∀ q u', actR T n p = .inl q → u' 6 = nI q → Q (some (.inl (nI 0))) (setA s u')) (h1 : ∀ t a b c q u', actR T n p = .inr ((t, a, b, c), q) → u' 6 = nI q → u' 8 = nI t → u' 9 = nI a → (t = 115 → u' 10 = nI b ∧ u' 11 = nI c) → Q (some (.inl (nI 1))) (setA s u')) : wpM L xs codT retT (f + 5) m_X10_passesAct [.inr (10, 0)] (setA s u) Q := by
  obtain ⟨hT, hn, h8, hB⟩ := id ht
  obtain ⟨s1, s2⟩ := sgnB_1 hs
  have hTp : s.1 23 0 p = nI 117 := by rw [hT p s1, s2]
  have hno115 : ¬ sgnB T n p 115 = true := sgnB_n (by omega)
  have hno116 : ¬ sgnB T n p 116 = true := sgnB_n (by omega)
  have hno114 : ¬ sgnB T n p 114 = true := sgnB_n (by omega)
  have eO : actR T n p = oneR T n p 117 0 7 := by unfold actR; rw [if_neg hno115, if_neg hno116, if_neg hno114, if_pos hs]
  have e8 : (putV (setA s u) 10 0 8 ((setA s u).1 23 0 ((setA s u).1 10 0 6).toNatClampNeg)).1 10 0 8 = nI 117 := by rw [putV_at, setA_x (by omega), hp, nI_cl (by omega), setA_o (by omega), hTp]
  have go : ∀ X : Nat → List MV → List MV → St → Prop, (∀ u', u' 6 = nI p → u' 8 = nI 117 → X 66 [.inr (10, 0)] [] (setA s u')) → ∀ u', u' = putF u 8 (nI 117) → X 66 [.inr (10, 0)] [] (setA s u') := fun X h u' hu => h u' (by rw [hu, putF_ne _ _ (by omega)]; exact hp) (by rw [hu, putF_at])
  intro call hcall X hX; refine hX 1000 0 _ _ _ ?_
  repeat' (first | (intro hc) | (refine And.intro ?_ ?_) | (exact absurd nI_0 ‹cmpF 0 (nI 0) 0›) | (exact absurd ‹cmpT 0 (nI 1) 0› nI1_ne) | (exact absurd nI_0 ‹cmpT 1 (nI 0) 0›) | (exact absurd ‹cmpF 1 (nI 1) 0› nI1_ne) | (show wp _ _ _ _ _ _ _ _ _ _ _ _; conv => whnf) | (simp (disch := omega) only [setA_x, setA_y, setA_o, setA_put, hp, hn, hTp, nI_cl, nI_add, Nat.add_zero, putF_at, putF_ne]))
  all_goals (try (exact absurd e8 (by assumption)))
  all_goals (try (exact absurd (e8.symm.trans (by assumption : (putV (setA s u) 10 0 8 ((setA s u).1 23 0 ((setA s u).1 10 0 6).toNatClampNeg)).1 10 0 8 = nI 115)) (nI_ne (by omega) (by omega) (by omega))))
  all_goals (try (exact absurd (e8.symm.trans (by assumption : (putV (setA s u) 10 0 8 ((setA s u).1 23 0 ((setA s u).1 10 0 6).toNatClampNeg)).1 10 0 8 = nI 114)) (nI_ne (by omega) (by omega) (by omega))))
  all_goals (try (exact absurd (e8.symm.trans (by assumption : (putV (setA s u) 10 0 8 ((setA s u).1 23 0 ((setA s u).1 10 0 6).toNatClampNeg)).1 10 0 8 = nI 117)) (nI_ne (by omega) (by omega) (by omega))))
  all_goals (try (exact absurd (e8.symm.trans (by assumption : (putV (setA s u) 10 0 8 ((setA s u).1 23 0 ((setA s u).1 10 0 6).toNatClampNeg)).1 10 0 8 = nI 116)) (nI_ne (by omega) (by omega) (by omega))))
  all_goals (try (exfalso; clear h0 h1 hX hcall hB go hT ht hs e8; simp (disch := omega) only [cmpT, cmpF, nI_toI, setA_x, setA_y, (id hp), (id hn)] at * <;> omega))
  all_goals (try (clear h0 h1 hX hcall hB go hT ht hs eO; simp (disch := omega) only [nI_toI, alen23]; omega))
  all_goals (try exact Or.inl rfl)
  (try simp only [takeL, setL])
  refine go X (fun u1 p1 p2 => ?_) _ rfl
  clear go
  have e9 : (putV (setA s u1) 10 0 6 ((setA s u1).1 10 0 6 + nI 1)).1 10 0 8 = nI 117 := by rw [putV_ne (by omega), setA_x (by omega), p2]
  cases e1 : numR T n (p + 1) 0 7 with
  | inl q =>
    have eA : actR T n p = .inl q := by rw [eO]; unfold oneR; rw [e1]
    have h := fun u' a1 => h0 q u' eA a1
    clear h0 h1
    refine hX 1000 66 _ _ _ ?_
    repeat' (first | (intro hc) | (refine And.intro ?_ ?_) | (exact absurd nI_0 ‹cmpF 0 (nI 0) 0›) | (exact absurd ‹cmpT 0 (nI 1) 0› nI1_ne) | (exact absurd nI_0 ‹cmpT 1 (nI 0) 0›) | (exact absurd ‹cmpF 1 (nI 1) 0› nI1_ne) | (show wp _ _ _ _ _ _ _ _ _ _ _ _; conv => whnf) | (simp (disch := omega) only [setA_x, setA_y, setA_o, setA_put, p1, p2, hn, nI_cl, nI_add, Nat.add_zero, putF_at, putF_ne]) | (rw [a3 8 (by omega) (by omega)]) | (simp (disch := omega) only [nI_add, nI_mul, setN_now, setN_put, nI_cl, Nat.add_zero]) | (refine hcall _ _ _ _ ?_; first | (refine r_pN_l ht (putF_at _ _ _) (by omega) (by omega) (by omega) e1 (fun u2 a1 a3 => ?_)) | fail))
    all_goals first
      | exact Or.inl rfl
      | exact Or.inr rfl
      | exact absurd e9 (by assumption)
      | exact absurd (e9.symm.trans (by assumption : (putV (setA s u1) 10 0 6 ((setA s u1).1 10 0 6 + nI 1)).1 10 0 8 = nI 115)) (nI_ne (by omega) (by omega) (by omega))
      | exact absurd (e9.symm.trans (by assumption : (putV (setA s u1) 10 0 6 ((setA s u1).1 10 0 6 + nI 1)).1 10 0 8 = nI 116)) (nI_ne (by omega) (by omega) (by omega))
      | skip
    all_goals ((try simp only [takeL, setL]); refine hX 1000 128 _ _ _ ?_)
    repeat' (first | (intro hc) | (refine And.intro ?_ ?_) | (exact absurd nI_0 ‹cmpF 0 (nI 0) 0›) | (exact absurd ‹cmpT 0 (nI 1) 0› nI1_ne) | (exact absurd nI_0 ‹cmpT 1 (nI 0) 0›) | (exact absurd ‹cmpF 1 (nI 1) 0› nI1_ne) | (show wp _ _ _ _ _ _ _ _ _ _ _ _; conv => whnf))
    all_goals first
      | exact Or.inl rfl
      | exact Or.inr rfl
      | exact h _ a1
      | exact h _ ((putF_ne _ _ (by omega)).trans a1)
  | inr w =>
    obtain ⟨a, p3⟩ := w
    have bl := numR_b e1
    cases e2 : sgnB T n p3 59 with
    | false =>
      have eA : actR T n p = .inl p3 := by
        rw [eO]; unfold oneR; rw [e1]
        show (if sgnB T n p3 59 = true then _ else _) = _
        rw [e2]; rfl
      have h := fun u' a1 => h0 p3 u' eA a1
      clear h0 h1
      refine hX 1000 66 _ _ _ ?_
      repeat' (first | (intro hc) | (refine And.intro ?_ ?_) | (exact absurd nI_0 ‹cmpF 0 (nI 0) 0›) | (exact absurd ‹cmpT 0 (nI 1) 0› nI1_ne) | (exact absurd nI_0 ‹cmpT 1 (nI 0) 0›) | (exact absurd ‹cmpF 1 (nI 1) 0› nI1_ne) | (show wp _ _ _ _ _ _ _ _ _ _ _ _; conv => whnf) | (simp (disch := omega) only [setA_x, setA_y, setA_o, setA_put, p1, p2, hn, nI_cl, nI_add, Nat.add_zero, putF_at, putF_ne]) | (rw [a2]) | (simp (disch := omega) only [nI_add, nI_mul, setN_now, setN_put, nI_cl, Nat.add_zero]) | (refine hcall _ _ _ _ ?_; first | (refine r_pN_r ht (putF_at _ _ _) (by omega) (by omega) (by omega) e1 (fun u2 a1 a2 a3 => ?_)) | fail))
      all_goals first
        | exact Or.inl rfl
        | exact Or.inr rfl
        | exact absurd e9 (by assumption)
        | exact absurd (e9.symm.trans (by assumption : (putV (setA s u1) 10 0 6 ((setA s u1).1 10 0 6 + nI 1)).1 10 0 8 = nI 115)) (nI_ne (by omega) (by omega) (by omega))
        | exact absurd (e9.symm.trans (by assumption : (putV (setA s u1) 10 0 6 ((setA s u1).1 10 0 6 + nI 1)).1 10 0 8 = nI 116)) (nI_ne (by omega) (by omega) (by omega))
        | skip
      all_goals ((try simp only [takeL, setL]); refine hX 1000 128 _ _ _ ?_)
      repeat' (first | (intro hc) | (refine And.intro ?_ ?_) | (exact absurd nI_0 ‹cmpF 0 (nI 0) 0›) | (exact absurd ‹cmpT 0 (nI 1) 0› nI1_ne) | (exact absurd nI_0 ‹cmpT 1 (nI 0) 0›) | (exact absurd ‹cmpF 1 (nI 1) 0› nI1_ne) | (show wp _ _ _ _ _ _ _ _ _ _ _ _; conv => whnf) | (simp (disch := omega) only [nI_add, nI_mul, setN_now, setN_put, nI_cl, Nat.add_zero]) | (refine hcall _ _ _ _ ?_; first | (refine r_pS_0 ht ((putF_ne _ _ (by omega)).trans a1) (by omega) (by omega) e2 ?_) | fail))
      all_goals first
        | exact Or.inl rfl
        | exact Or.inr rfl
        | exact h _ ((putF_ne _ _ (by omega)).trans a1)
    | true =>
      have eA : actR T n p = .inr ((117, a, 0, 0), p3 + 1) := by
        rw [eO]; unfold oneR; rw [e1]
        show (if sgnB T n p3 59 = true then _ else _) = _
        rw [e2]; rfl
      have h := fun u' => h1 117 a 0 0 (p3 + 1) u' eA
      clear h0 h1
      refine hX 1000 66 _ _ _ ?_
      repeat' (first | (intro hc) | (refine And.intro ?_ ?_) | (exact absurd nI_0 ‹cmpF 0 (nI 0) 0›) | (exact absurd ‹cmpT 0 (nI 1) 0› nI1_ne) | (exact absurd nI_0 ‹cmpT 1 (nI 0) 0›) | (exact absurd ‹cmpF 1 (nI 1) 0› nI1_ne) | (show wp _ _ _ _ _ _ _ _ _ _ _ _; conv => whnf) | (simp (disch := omega) only [setA_x, setA_y, setA_o, setA_put, p1, p2, hn, nI_cl, nI_add, Nat.add_zero, putF_at, putF_ne]) | (rw [a2]) | (simp (disch := omega) only [nI_add, nI_mul, setN_now, setN_put, nI_cl, Nat.add_zero]) | (refine hcall _ _ _ _ ?_; first | (refine r_pN_r ht (putF_at _ _ _) (by omega) (by omega) (by omega) e1 (fun u2 a1 a2 a3 => ?_)) | fail))
      all_goals first
        | exact Or.inl rfl
        | exact Or.inr rfl
        | exact absurd e9 (by assumption)
        | exact absurd (e9.symm.trans (by assumption : (putV (setA s u1) 10 0 6 ((setA s u1).1 10 0 6 + nI 1)).1 10 0 8 = nI 115)) (nI_ne (by omega) (by omega) (by omega))
        | exact absurd (e9.symm.trans (by assumption : (putV (setA s u1) 10 0 6 ((setA s u1).1 10 0 6 + nI 1)).1 10 0 8 = nI 116)) (nI_ne (by omega) (by omega) (by omega))
        | skip
      all_goals ((try simp only [takeL, setL]); refine hX 1000 128 _ _ _ ?_)
      repeat' (first | (intro hc) | (refine And.intro ?_ ?_) | (exact absurd nI_0 ‹cmpF 0 (nI 0) 0›) | (exact absurd ‹cmpT 0 (nI 1) 0› nI1_ne) | (exact absurd nI_0 ‹cmpT 1 (nI 0) 0›) | (exact absurd ‹cmpF 1 (nI 1) 0› nI1_ne) | (show wp _ _ _ _ _ _ _ _ _ _ _ _; conv => whnf) | (simp (disch := omega) only [nI_add, nI_mul, setN_now, setN_put, nI_cl, Nat.add_zero]) | (refine hcall _ _ _ _ ?_; first | (refine r_pS_1 ht ((putF_ne _ _ (by omega)).trans a1) (by omega) (by omega) e2 ?_) | fail))
      all_goals first
        | exact Or.inl rfl
        | exact Or.inr rfl
        | (refine h _ (putF_at _ _ _) ?_ ?_ (fun q0 => absurd q0 (by omega)) <;> simp (disch := omega) only [putF_ne, putF_at, a1, a2, a3, p2])
end REF29
