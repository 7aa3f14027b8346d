/-! THE REFERENCE: undo, save, restore -/
section REF14
variable {L : Nat} {xs : Nat → Int32} {f i k r p q c j n B b : Nat} {x y v a z w l name flow place : Int32} {s : St} {F G F' : Fm} {Q : Option MV → St → Prop}
theorem setNK_22 : putV (setN (setK s G) F) 22 0 i x = setN (setK (putV s 22 0 i x) G) F := by
  unfold setN setK putV
  apply Prod.ext
  · funext a b d
    show (if a = 22 ∧ b = 0 ∧ d = i then x else if a = 20 ∧ b = 0 then F d else if a = 21 ∧ b = 0 then G d else s.1 a b d) = (if a = 20 ∧ b = 0 then F d else if a = 21 ∧ b = 0 then G d else if a = 22 ∧ b = 0 ∧ d = i then x else s.1 a b d)
    by_cases h1 : a = 22
    · subst h1; simp
    · simp [h1]
  · rfl
theorem setNK_22v : (setN (setK s G) F).1 22 0 i = s.1 22 0 i := by rw [setN_o (by decide), setK_o (by decide)]
theorem alen22 : alen 22 = 2 := rfl
theorem rowF (G : Fm) (c : Nat) : (fun k => G (509 * c + k)) = fun k => G (509 * c + k) := rfl
set_option maxHeartbeats 4000000 in
set_option maxRecDepth 100000 in
theorem r_undo (hn : n ≤ 5) (hs : s.1 10 0 3 = nI n) (h0 : n = 0 → Q (some (.inl (-3))) (setN (setK s G) F)) (h : 0 < n → Q (some (.inl (nI (n - 1)))) (setN (setK (putV s 10 0 3 (nI (n - 1))) G) (mixF F (fun k => G (509 * (n - 1) + k))))) : wpM L xs codT retT (f + 2) m_X10_undo [.inr (10, 0)] (setN (setK s G) F) Q := by
  by_cases hz : n = 0
  · have h0 := h0 hz
    subst hz
    intro call hcall X hX; refine hX 1000 0 _ _ _ ?_
    repeat' (first | (intro hc) | (refine And.intro ?_ ?_) | (exact absurd nI_0 ‹cmpF 0 (nI 0) 0›) | (exact absurd ‹cmpT 0 (nI 1) 0› nI1_ne) | (exact absurd nI_0 ‹cmpT 1 (nI 0) 0›) | (exact absurd ‹cmpF 1 (nI 1) 0› nI1_ne) | (show wp _ _ _ _ _ _ _ _ _ _ _ _; conv => whnf) | (rw [setNK_fput]) | (rw [setNK_fvv hs rfl]) | (rw [setNK_fv]) | (rw [hs]) | (simp (disch := omega) only [nI_add, nI_mul, setN_now, setN_put, nI_cl, Nat.add_zero]) | (refine hcall _ _ _ _ ?_; first | (refine r_brings (by omega) ?_) | fail))
    all_goals first
      | exact h0
      | (have hq : ¬ (setN (setK s G) F).1 10 0 3 = 0 := ‹cmpT 1 _ 0›; rw [setNK_fv, hs] at hq; exact absurd nI_0 hq)
      | ((try clear hX hcall); (try clear h); (try clear hj); (try simp (disch := omega) only [cmpT, cmpF, bI_eq0, bI_ne0, Classical.not_not, nI_toI, setN_now, nI_cl, alen20, alen22, Int32.toInt_zero, setNK_fv, setNK_22v, hs] at *); (try clear hs); first | omega | contradiction)
  · have h := h (by omega)
    have hn0 : ¬ nI n = 0 := fun q => hz ((nI_inj (by omega) (by omega)).mp (q.trans nI_0.symm))
    intro call hcall X hX; refine hX 1000 0 _ _ _ ?_
    repeat' (first | (intro hc) | (refine And.intro ?_ ?_) | (exact absurd nI_0 ‹cmpF 0 (nI 0) 0›) | (exact absurd ‹cmpT 0 (nI 1) 0› nI1_ne) | (exact absurd nI_0 ‹cmpT 1 (nI 0) 0›) | (exact absurd ‹cmpF 1 (nI 1) 0› nI1_ne) | (show wp _ _ _ _ _ _ _ _ _ _ _ _; conv => whnf) | (rw [setNK_fput]) | (rw [setNK_fvv putV_at rfl]) | (rw [setNK_fvv hs rfl]) | (rw [setNK_fv]) | (rw [putV_at]) | (rw [hs]) | (rw [nI_sub (by omega) (by omega)]) | (simp (disch := omega) only [nI_add, nI_mul, setN_now, setN_put, nI_cl, Nat.add_zero]) | (refine hcall _ _ _ _ ?_; first | (refine r_brings (by omega) ?_) | fail))
    all_goals first
      | exact h
      | (have hq : (setN (setK s G) F).1 10 0 3 = 0 := ‹cmpF 1 _ 0›; rw [setNK_fv, hs] at hq; exact absurd hq hn0)
      | ((try clear hX hcall); (try clear h); (try clear hj); (try simp (disch := omega) only [cmpT, cmpF, bI_eq0, bI_ne0, Classical.not_not, nI_toI, setN_now, nI_cl, alen20, alen22, Int32.toInt_zero, setNK_fv, setNK_22v, hs] at *); (try clear hs); first | omega | contradiction)
set_option maxHeartbeats 4000000 in
set_option maxRecDepth 100000 in
theorem r_save (hj : ¬ iN v 2 → Q (some (.inl (-1))) (setN (setK s G) F)) (h : ∀ j, j < 2 → v = nI j → Q (some (.inl (F 0))) (setN (setK (putV s 22 0 j (nI 1)) (keepG G F (5 + j))) F)) : wpM L xs codT retT (f + 2) m_X10_save [.inr (10, 0), .inl v] (setN (setK s G) F) Q := by
  by_cases hv : iN v 2
  · obtain ⟨j, hp, hpl⟩ := iN_nn hv (by omega)
    subst hp
    have h := h j hpl rfl
    intro call hcall X hX; refine hX 1000 0 _ _ _ ?_
    repeat' (first | (intro hc) | (refine And.intro ?_ ?_) | (exact absurd nI_0 ‹cmpF 0 (nI 0) 0›) | (exact absurd ‹cmpT 0 (nI 1) 0› nI1_ne) | (exact absurd nI_0 ‹cmpT 1 (nI 0) 0›) | (exact absurd ‹cmpF 1 (nI 1) 0› nI1_ne) | (show wp _ _ _ _ _ _ _ _ _ _ _ _; conv => whnf) | (rw [setNK_22]) | (simp (disch := omega) only [nI_add, nI_mul, setN_now, setN_put, nI_cl, Nat.add_zero]) | (refine hcall _ _ _ _ ?_; first | (refine r_isIn ?_) | (refine r_keeps (by omega) ?_) | fail))
    all_goals first
      | exact h
      | ((try clear hX hcall); (try clear h); (try clear hj); (try simp (disch := omega) only [cmpT, cmpF, bI_eq0, bI_ne0, Classical.not_not, nI_toI, setN_now, nI_cl, alen20, alen22, Int32.toInt_zero, setNK_fv, setNK_22v] at *); first | omega | contradiction)
  · have hj := hj hv
    intro call hcall X hX; refine hX 1000 0 _ _ _ ?_
    repeat' (first | (intro hc) | (refine And.intro ?_ ?_) | (exact absurd nI_0 ‹cmpF 0 (nI 0) 0›) | (exact absurd ‹cmpT 0 (nI 1) 0› nI1_ne) | (exact absurd nI_0 ‹cmpT 1 (nI 0) 0›) | (exact absurd ‹cmpF 1 (nI 1) 0› nI1_ne) | (show wp _ _ _ _ _ _ _ _ _ _ _ _; conv => whnf) | (simp (disch := omega) only [nI_add, nI_mul, setN_now, setN_put, nI_cl, Nat.add_zero]) | (refine hcall _ _ _ _ ?_; first | (refine r_isIn ?_) | fail))
    all_goals first
      | exact hj
      | ((try clear hX hcall); (try clear h); (try clear hj); (try simp (disch := omega) only [cmpT, cmpF, bI_eq0, bI_ne0, Classical.not_not, nI_toI, setN_now, nI_cl, alen20, alen22, Int32.toInt_zero, setNK_fv, setNK_22v] at *); first | omega | contradiction)
set_option maxHeartbeats 4000000 in
set_option maxRecDepth 100000 in
theorem r_restore (hn : n ≤ 5) (hs : s.1 10 0 3 = nI n) (hj : ¬ iN v 2 → Q (some (.inl (-1))) (setN (setK s G) F)) (hj2 : ∀ j, j < 2 → v = nI j → s.1 22 0 j = 0 → Q (some (.inl (-3))) (setN (setK s G) F)) (h : ∀ j, j < 2 → v = nI j → ¬ s.1 22 0 j = 0 → Q (some (.inl (mixF F (fun k => recG G F n (509 * (5 + j) + k)) 0))) (setN (setK (putV s 10 0 3 (nI (recN n))) (recG G F n)) (mixF F (fun k => recG G F n (509 * (5 + j) + k))))) : wpM L xs codT retT (f + 3) m_X10_restore [.inr (10, 0), .inl v] (setN (setK s G) F) Q := by
  by_cases hv : iN v 2
  · obtain ⟨j, hp, hpl⟩ := iN_nn hv (by omega)
    subst hp
    by_cases h0 : s.1 22 0 j = 0
    · have h := hj2 j hpl rfl h0
      intro call hcall X hX; refine hX 1000 0 _ _ _ ?_
      repeat' (first | (intro hc) | (refine And.intro ?_ ?_) | (exact absurd nI_0 ‹cmpF 0 (nI 0) 0›) | (exact absurd ‹cmpT 0 (nI 1) 0› nI1_ne) | (exact absurd nI_0 ‹cmpT 1 (nI 0) 0›) | (exact absurd ‹cmpF 1 (nI 1) 0› nI1_ne) | (show wp _ _ _ _ _ _ _ _ _ _ _ _; conv => whnf) | (rw [setNK_22v]) | (rw [h0]) | (simp (disch := omega) only [nI_add, nI_mul, setN_now, setN_put, nI_cl, Nat.add_zero]) | (refine hcall _ _ _ _ ?_; first | (refine r_isIn ?_) | (refine r_records hn hs ?_) | (refine r_brings (by omega) ?_) | fail))
      all_goals first
        | exact h
        | ((try clear hX hcall); (try clear h); (try clear hj); (try simp (disch := omega) only [cmpT, cmpF, bI_eq0, bI_ne0, Classical.not_not, nI_toI, setN_now, nI_cl, alen20, alen22, Int32.toInt_zero, setNK_fv, setNK_22v, hs] at *); (try clear hs); first | omega | contradiction)
    · have h := h j hpl rfl h0
      intro call hcall X hX; refine hX 1000 0 _ _ _ ?_
      repeat' (first | (intro hc) | (refine And.intro ?_ ?_) | (exact absurd nI_0 ‹cmpF 0 (nI 0) 0›) | (exact absurd ‹cmpT 0 (nI 1) 0› nI1_ne) | (exact absurd nI_0 ‹cmpT 1 (nI 0) 0›) | (exact absurd ‹cmpF 1 (nI 1) 0› nI1_ne) | (show wp _ _ _ _ _ _ _ _ _ _ _ _; conv => whnf) | (simp (disch := omega) only [nI_add, nI_mul, setN_now, setN_put, nI_cl, Nat.add_zero]) | (refine hcall _ _ _ _ ?_; first | (refine r_isIn ?_) | (refine r_records hn hs ?_) | (refine r_brings (by omega) ?_) | fail))
      all_goals first
        | exact h
        | ((try clear hX hcall); (try clear h); (try clear hj); (try simp (disch := omega) only [cmpT, cmpF, bI_eq0, bI_ne0, Classical.not_not, nI_toI, setN_now, nI_cl, alen20, alen22, Int32.toInt_zero, setNK_fv, setNK_22v, hs] at *); (try clear hs); first | omega | contradiction)
  · have hj := hj hv
    intro call hcall X hX; refine hX 1000 0 _ _ _ ?_
    repeat' (first | (intro hc) | (refine And.intro ?_ ?_) | (exact absurd nI_0 ‹cmpF 0 (nI 0) 0›) | (exact absurd ‹cmpT 0 (nI 1) 0› nI1_ne) | (exact absurd nI_0 ‹cmpT 1 (nI 0) 0›) | (exact absurd ‹cmpF 1 (nI 1) 0› nI1_ne) | (show wp _ _ _ _ _ _ _ _ _ _ _ _; conv => whnf) | (simp (disch := omega) only [nI_add, nI_mul, setN_now, setN_put, nI_cl, Nat.add_zero]) | (refine hcall _ _ _ _ ?_; first | (refine r_isIn ?_) | fail))
    all_goals first
      | exact hj
      | ((try clear hX hcall); (try clear h); (try clear hj); (try simp (disch := omega) only [cmpT, cmpF, bI_eq0, bI_ne0, Classical.not_not, nI_toI, setN_now, nI_cl, alen20, alen22, Int32.toInt_zero, setNK_fv, setNK_22v, hs] at *); (try clear hs); first | omega | contradiction)
end REF14

theorem i_vc : Claimed_1_1 ∧ Claimed_1_2 := sorry
