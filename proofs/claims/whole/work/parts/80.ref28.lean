/-! THE TEXT: an act, the first fault, by the reference -/
def fltN (T : Nat → Nat) (n : Nat) : Nat → Nat → Option Nat
  | 0, _ => none
  | k + 1, p => if p < n then (match actR T n p with
    | .inl q => some q
    | .inr (_, p1) => fltN T n k p1) else none
def fltF (T : Nat → Nat) (n : Nat) : Option Nat := fltN T n 81 0
section REF28
variable {L : Nat} {xs : Nat → Int32} {f i k r p q c j n B b w m lo hi : Nat} {x y v a z l name flow place : Int32} {s : St} {F G F' u : Fm} {T : Nat → Nat} {Q : Option MV → St → Prop}
theorem r_pL_l (ht : txtR s T n) (hp : u 6 = nI p) (hp8 : p ≤ 80) (e : letR T n p = .inl q) (h : ∀ u', u' 6 = nI q → Q (some (.inl (nI 0))) (setA s u')) : wpM L xs codT retT (f + 4) m_X10_passesLetter [.inr (10, 0)] (setA s u) Q :=
  r_passesLetter ht hp hp8 (fun q' u' e' h6 => by rw [e] at e'; cases e'; exact h u' h6) (fun a b c q' u' e' => by rw [e] at e'; cases e')
theorem r_pL_r {a b c : Nat} (ht : txtR s T n) (hp : u 6 = nI p) (hp8 : p ≤ 80) (e : letR T n p = .inr ((a, b, c), q)) (h : ∀ u', u' 6 = nI q → u' 8 = u 8 → u' 9 = nI a → u' 10 = nI b → u' 11 = nI c → Q (some (.inl (nI 1))) (setA s u')) : wpM L xs codT retT (f + 4) m_X10_passesLetter [.inr (10, 0)] (setA s u) Q :=
  r_passesLetter ht hp hp8 (fun q' u' e' => by rw [e] at e'; cases e') (fun a b c q' u' e' h6 h8 h9 h10 h11 => by rw [e] at e'; cases e'; exact h u' h6 h8 h9 h10 h11)
theorem letR_b {a b c : Nat} (h : letR T n p = .inr ((a, b, c), q)) : a ≤ 3 ∧ b ≤ 255 ∧ c ≤ 99 ∧ p < q ∧ q ≤ n := by
  unfold letR at h
  split at h
  · cases h
  · rename_i e1
    split at h
    · split at h
      · cases h
      · rename_i e3
        split at h
        · split at h
          · cases h
          · rename_i e5
            cases h
            have b1 := numR_b e1
            have b2 := numR_b e3
            have b3 := numR_b e5
            omega
        · cases h
    · cases h
set_option maxHeartbeats 4000000 in
set_option maxRecDepth 100000 in
theorem r_act_s (ht : txtR s T n) (hp : u 6 = nI p) (hs : sgnB T n p 115 = true) (h0 : ∀ q u', actR T n p = .inl q → u' 6 = nI q → Q (some (.inl (nI 0))) (setA s u')) (h1 : ∀ t a b c q u', actR T n p = .inr ((t, a, b, c), q) → u' 6 = nI q → u' 8 = nI t → u' 9 = nI a → (t = 115 → u' 10 = nI b ∧ u' 11 = nI c) → Q (some (.inl (nI 1))) (setA s u')) : wpM L xs codT retT (f + 5) m_X10_passesAct [.inr (10, 0)] (setA s u) Q := by
  obtain ⟨hT, hn, h8, hB⟩ := id ht
  obtain ⟨s1, s2⟩ := sgnB_1 hs
  have hTp : s.1 23 0 p = nI 115 := by rw [hT p s1, s2]
  have e8 : (putV (setA s u) 10 0 8 ((setA s u).1 23 0 ((setA s u).1 10 0 6).toNatClampNeg)).1 10 0 8 = nI 115 := by rw [putV_at, setA_x (by omega), hp, nI_cl (by omega), setA_o (by omega), hTp]
  have go : ∀ X : Nat → List MV → List MV → St → Prop, (∀ u', u' 6 = nI p → u' 8 = nI 115 → X 66 [.inr (10, 0)] [] (setA s u')) → ∀ u', u' = putF u 8 (nI 115) → X 66 [.inr (10, 0)] [] (setA s u') := fun X h u' hu => h u' (by rw [hu, putF_ne _ _ (by omega)]; exact hp) (by rw [hu, putF_at])
  intro call hcall X hX; refine hX 1000 0 _ _ _ ?_
  repeat' (first | (intro hc) | (refine And.intro ?_ ?_) | (exact absurd nI_0 ‹cmpF 0 (nI 0) 0›) | (exact absurd ‹cmpT 0 (nI 1) 0› nI1_ne) | (exact absurd nI_0 ‹cmpT 1 (nI 0) 0›) | (exact absurd ‹cmpF 1 (nI 1) 0› nI1_ne) | (show wp _ _ _ _ _ _ _ _ _ _ _ _; conv => whnf) | (simp (disch := omega) only [setA_x, setA_y, setA_o, setA_put, hp, hn, hTp, nI_cl, nI_add, Nat.add_zero, putF_at, putF_ne]))
  all_goals (try (exact absurd e8 (by assumption)))
  all_goals (try (exact absurd (e8.symm.trans (by assumption : (putV (setA s u) 10 0 8 ((setA s u).1 23 0 ((setA s u).1 10 0 6).toNatClampNeg)).1 10 0 8 = nI 115)) (nI_ne (by omega) (by omega) (by omega))))
  all_goals (try (exact absurd (e8.symm.trans (by assumption : (putV (setA s u) 10 0 8 ((setA s u).1 23 0 ((setA s u).1 10 0 6).toNatClampNeg)).1 10 0 8 = nI 114)) (nI_ne (by omega) (by omega) (by omega))))
  all_goals (try (exact absurd (e8.symm.trans (by assumption : (putV (setA s u) 10 0 8 ((setA s u).1 23 0 ((setA s u).1 10 0 6).toNatClampNeg)).1 10 0 8 = nI 117)) (nI_ne (by omega) (by omega) (by omega))))
  all_goals (try (exact absurd (e8.symm.trans (by assumption : (putV (setA s u) 10 0 8 ((setA s u).1 23 0 ((setA s u).1 10 0 6).toNatClampNeg)).1 10 0 8 = nI 116)) (nI_ne (by omega) (by omega) (by omega))))
  all_goals (try (exfalso; clear h0 h1 hX hcall hB go hT ht hs e8; simp (disch := omega) only [cmpT, cmpF, nI_toI, setA_x, setA_y, (id hp), (id hn)] at * <;> omega))
  all_goals (try (clear h0 h1 hX hcall hB go hT ht hs; simp (disch := omega) only [nI_toI, alen23]; omega))
  all_goals (try exact Or.inl rfl)
  (try simp only [takeL, setL])
  refine go X (fun u1 p1 p2 => ?_) _ rfl
  clear go
  have e9 : (putV (setA s u1) 10 0 6 ((setA s u1).1 10 0 6 + nI 1)).1 10 0 8 = nI 115 := by rw [putV_ne (by omega), setA_x (by omega), p2]
  cases e1 : letR T n (p + 1) with
  | inl q =>
    have eA : actR T n p = .inl q := by unfold actR; rw [if_pos hs, e1]
    have h := fun u' a1 => h0 q u' eA a1
    clear h0 h1
    refine hX 1000 66 _ _ _ ?_
    repeat' (first | (intro hc) | (refine And.intro ?_ ?_) | (exact absurd nI_0 ‹cmpF 0 (nI 0) 0›) | (exact absurd ‹cmpT 0 (nI 1) 0› nI1_ne) | (exact absurd nI_0 ‹cmpT 1 (nI 0) 0›) | (exact absurd ‹cmpF 1 (nI 1) 0› nI1_ne) | (show wp _ _ _ _ _ _ _ _ _ _ _ _; conv => whnf) | (simp (disch := omega) only [setA_x, setA_y, setA_o, setA_put, p1, p2, hn, nI_cl, nI_add, Nat.add_zero, putF_at, putF_ne]) | (simp (disch := omega) only [nI_add, nI_mul, setN_now, setN_put, nI_cl, Nat.add_zero]) | (refine hcall _ _ _ _ ?_; first | (refine r_pL_l ht (putF_at _ _ _) (by omega) e1 (fun u2 a1 => ?_)) | fail))
    all_goals first
      | exact Or.inl rfl
      | exact Or.inr rfl
      | exact absurd e9 (by assumption)
      | exact absurd (e9.symm.trans (by assumption : (putV (setA s u1) 10 0 6 ((setA s u1).1 10 0 6 + nI 1)).1 10 0 8 = nI 115)) (nI_ne (by omega) (by omega) (by omega))
      | exact absurd (e9.symm.trans (by assumption : (putV (setA s u1) 10 0 6 ((setA s u1).1 10 0 6 + nI 1)).1 10 0 8 = nI 116)) (nI_ne (by omega) (by omega) (by omega))
      | skip
    all_goals ((try simp only [takeL, setL]); refine hX 1000 128 _ _ _ ?_)
    repeat' (first | (intro hc) | (refine And.intro ?_ ?_) | (exact absurd nI_0 ‹cmpF 0 (nI 0) 0›) | (exact absurd ‹cmpT 0 (nI 1) 0› nI1_ne) | (exact absurd nI_0 ‹cmpT 1 (nI 0) 0›) | (exact absurd ‹cmpF 1 (nI 1) 0› nI1_ne) | (show wp _ _ _ _ _ _ _ _ _ _ _ _; conv => whnf))
    all_goals first
      | exact Or.inl rfl
      | exact Or.inr rfl
      | exact h _ a1
  | inr w =>
    obtain ⟨⟨a, b, c⟩, p3⟩ := w
    have bl := letR_b e1
    cases e2 : sgnB T n p3 59 with
    | false =>
      have eA : actR T n p = .inl p3 := by
        unfold actR; rw [if_pos hs, e1]
        show (if sgnB T n p3 59 = true then _ else _) = _
        rw [e2]; rfl
      have h := fun u' a1 => h0 p3 u' eA a1
      clear h0 h1
      refine hX 1000 66 _ _ _ ?_
      repeat' (first | (intro hc) | (refine And.intro ?_ ?_) | (exact absurd nI_0 ‹cmpF 0 (nI 0) 0›) | (exact absurd ‹cmpT 0 (nI 1) 0› nI1_ne) | (exact absurd nI_0 ‹cmpT 1 (nI 0) 0›) | (exact absurd ‹cmpF 1 (nI 1) 0› nI1_ne) | (show wp _ _ _ _ _ _ _ _ _ _ _ _; conv => whnf) | (simp (disch := omega) only [setA_x, setA_y, setA_o, setA_put, p1, p2, hn, nI_cl, nI_add, Nat.add_zero, putF_at, putF_ne]) | (simp (disch := omega) only [nI_add, nI_mul, setN_now, setN_put, nI_cl, Nat.add_zero]) | (refine hcall _ _ _ _ ?_; first | (refine r_pL_r ht (putF_at _ _ _) (by omega) e1 (fun u2 a1 a2 a3 a4 a5 => ?_)) | fail))
      all_goals first
        | exact Or.inl rfl
        | exact Or.inr rfl
        | exact absurd e9 (by assumption)
        | exact absurd (e9.symm.trans (by assumption : (putV (setA s u1) 10 0 6 ((setA s u1).1 10 0 6 + nI 1)).1 10 0 8 = nI 115)) (nI_ne (by omega) (by omega) (by omega))
        | exact absurd (e9.symm.trans (by assumption : (putV (setA s u1) 10 0 6 ((setA s u1).1 10 0 6 + nI 1)).1 10 0 8 = nI 116)) (nI_ne (by omega) (by omega) (by omega))
        | skip
      all_goals ((try simp only [takeL, setL]); refine hX 1000 128 _ _ _ ?_)
      repeat' (first | (intro hc) | (refine And.intro ?_ ?_) | (exact absurd nI_0 ‹cmpF 0 (nI 0) 0›) | (exact absurd ‹cmpT 0 (nI 1) 0› nI1_ne) | (exact absurd nI_0 ‹cmpT 1 (nI 0) 0›) | (exact absurd ‹cmpF 1 (nI 1) 0› nI1_ne) | (show wp _ _ _ _ _ _ _ _ _ _ _ _; conv => whnf) | (simp (disch := omega) only [nI_add, nI_mul, setN_now, setN_put, nI_cl, Nat.add_zero]) | (refine hcall _ _ _ _ ?_; first | (refine r_pS_0 ht a1 (by omega) (by omega) e2 ?_) | fail))
      all_goals first
        | exact Or.inl rfl
        | exact Or.inr rfl
        | exact h _ a1
    | true =>
      have eA : actR T n p = .inr ((115, a, b, c), p3 + 1) := by
        unfold actR; rw [if_pos hs, e1]
        show (if sgnB T n p3 59 = true then _ else _) = _
        rw [e2]; rfl
      have h := fun u' => h1 115 a b c (p3 + 1) u' eA
      clear h0 h1
      refine hX 1000 66 _ _ _ ?_
      repeat' (first | (intro hc) | (refine And.intro ?_ ?_) | (exact absurd nI_0 ‹cmpF 0 (nI 0) 0›) | (exact absurd ‹cmpT 0 (nI 1) 0› nI1_ne) | (exact absurd nI_0 ‹cmpT 1 (nI 0) 0›) | (exact absurd ‹cmpF 1 (nI 1) 0› nI1_ne) | (show wp _ _ _ _ _ _ _ _ _ _ _ _; conv => whnf) | (simp (disch := omega) only [setA_x, setA_y, setA_o, setA_put, p1, p2, hn, nI_cl, nI_add, Nat.add_zero, putF_at, putF_ne]) | (simp (disch := omega) only [nI_add, nI_mul, setN_now, setN_put, nI_cl, Nat.add_zero]) | (refine hcall _ _ _ _ ?_; first | (refine r_pL_r ht (putF_at _ _ _) (by omega) e1 (fun u2 a1 a2 a3 a4 a5 => ?_)) | fail))
      all_goals first
        | exact Or.inl rfl
        | exact Or.inr rfl
        | exact absurd e9 (by assumption)
        | exact absurd (e9.symm.trans (by assumption : (putV (setA s u1) 10 0 6 ((setA s u1).1 10 0 6 + nI 1)).1 10 0 8 = nI 115)) (nI_ne (by omega) (by omega) (by omega))
        | exact absurd (e9.symm.trans (by assumption : (putV (setA s u1) 10 0 6 ((setA s u1).1 10 0 6 + nI 1)).1 10 0 8 = nI 116)) (nI_ne (by omega) (by omega) (by omega))
        | skip
      all_goals ((try simp only [takeL, setL]); refine hX 1000 128 _ _ _ ?_)
      repeat' (first | (intro hc) | (refine And.intro ?_ ?_) | (exact absurd nI_0 ‹cmpF 0 (nI 0) 0›) | (exact absurd ‹cmpT 0 (nI 1) 0› nI1_ne) | (exact absurd nI_0 ‹cmpT 1 (nI 0) 0›) | (exact absurd ‹cmpF 1 (nI 1) 0› nI1_ne) | (show wp _ _ _ _ _ _ _ _ _ _ _ _; conv => whnf) | (simp (disch := omega) only [nI_add, nI_mul, setN_now, setN_put, nI_cl, Nat.add_zero]) | (refine hcall _ _ _ _ ?_; first | (refine r_pS_1 ht a1 (by omega) (by omega) e2 ?_) | fail))
      all_goals first
        | exact Or.inl rfl
        | exact Or.inr rfl
        | (refine h _ (putF_at _ _ _) ?_ ?_ (fun _ => ⟨?_, ?_⟩) <;> simp (disch := omega) only [putF_ne, a2, a3, a4, a5, p2])
end REF28
