/-! THE REFERENCE: ways, sites, answers -/
def upB (F : Fm) (k : Nat) : Nat → Bool
  | 0 => false
  | j + 1 => upB F k j || decide (F (29 + 17 * k + (5 + 4 * j)) = nI 1)
section REF2
variable {L : Nat} {xs : Nat → Int32} {f k r p j B : Nat} {x y v a z name flow : Int32} {s : St} {F : Fm} {Q : Option MV → St → Prop}
theorem wayN_eq {n : Nat} (hp : ∀ k, 0 < k → k < n → ∃ p : Nat, p < k ∧ F (5 + 3 * k) = nI p) (hn : n ≤ 8) : ∀ m m' k, k < n → k < m → k < m' → wayN F m k = wayN F m' k := by
  intro m
  induction m with
  | zero => intro m' k _ h; omega
  | succ m ih =>
    intro m' k hk hm hm'
    obtain ⟨m', rfl⟩ : ∃ q, m' = q + 1 := ⟨m' - 1, by omega⟩
    unfold wayN
    by_cases h0 : k = 0
    · rw [if_pos h0, if_pos h0]
    · rw [if_neg h0, if_neg h0]
      obtain ⟨p, h1, h2⟩ := hp k (by omega) hk
      have e : nn (F (5 + 3 * k)) = p := by rw [h2]; exact nI_cl (by omega)
      rw [e, ih m' p (by omega) (by omega) (by omega)]
theorem wayF_0 : wayF F 0 = 1 := by unfold wayF wayN; rw [if_pos rfl]
theorem WF.par (hw : WF F B) : ∀ k, 0 < k → k < cS F → ∃ p : Nat, p < k ∧ F (5 + 3 * k) = nI p := fun k h1 h2 => (hw.server h2).2.2 h1
theorem wayF_s (hw : WF F B) {p : Nat} (h0 : 0 < k) (hk : k < cS F) (hp : F (5 + 3 * k) = nI p) (hpk : p < k) : wayF F k = wayF F p + 1 := by
  have h8 := hw.s2
  unfold wayF
  rw [wayN_eq hw.par h8.2 8 (8 + 1) k hk (by omega) (by omega)]
  have e : nn (F (5 + 3 * k)) = p := by rw [hp]; exact nI_cl (by omega)
  show (if k = 0 then 1 else wayN F 8 (nn (F (5 + 3 * k))) + 1) = _
  rw [if_neg (by omega), e]
theorem wayF_le (hw : WF F B) : ∀ k, k < cS F → 1 ≤ wayF F k ∧ wayF F k ≤ k + 1 := by
  intro k
  induction k using Nat.strongRecOn with
  | ind k ih =>
    intro hk
    by_cases h0 : k = 0
    · subst h0; rw [wayF_0]; omega
    · obtain ⟨p, h1, h2⟩ := hw.par k (by omega) hk
      rw [wayF_s hw (by omega) hk h2 h1]
      have := ih p h1 (by omega)
      omega
set_option maxHeartbeats 4000000 in
set_option maxRecDepth 100000 in
theorem r_wayTo (hw : WF F B) (hk : k < cS F) (h : Q (some (.inl (nI (wayF F k)))) (setN s F)) : wpM L xs codT retT (f + 1) m_X10_wayTo [.inr (10, 0), .inl (nI k)] (setN s F) Q := by
  have h2 := hw.s2
  have h3 := wayF_le hw k hk
  intro call hcall X hX; refine hX 1000 0 _ _ _ ?_
  repeat' (first | (intro hc) | (refine And.intro ?_ ?_) | (exact absurd nI_0 ‹cmpF 0 (nI 0) 0›) | (exact absurd ‹cmpT 0 (nI 1) 0› nI1_ne) | (exact absurd nI_0 ‹cmpT 1 (nI 0) 0›) | (exact absurd ‹cmpF 1 (nI 1) 0› nI1_ne) | (show wp _ _ _ _ _ _ _ _ _ _ _ _; conv => whnf))
  have loop : ∀ j c, j < cS F → c + wayF F j = wayF F k + 1 → X 4 [.inr (10, 0), .inl (nI k), .inl (nI c), .inl (nI j)] [] (setN s F) := by
    intro j
    induction j using Nat.strongRecOn with
    | ind j ih =>
      intro c hj hc0
      by_cases h0 : j = 0
      · subst h0
        rw [wayF_0] at hc0
        have : c = wayF F k := by omega
        subst this
        refine hX 1000 4 _ _ _ ?_
        repeat' (first | (intro hc) | (refine And.intro ?_ ?_) | (exact absurd nI_0 ‹cmpF 0 (nI 0) 0›) | (exact absurd ‹cmpT 0 (nI 1) 0› nI1_ne) | (exact absurd nI_0 ‹cmpT 1 (nI 0) 0›) | (exact absurd ‹cmpF 1 (nI 1) 0› nI1_ne) | (show wp _ _ _ _ _ _ _ _ _ _ _ _; conv => whnf))
        all_goals first | exact h | exact absurd nI_0 ‹¬ nI 0 = 0› | (clear h hX hcall ih; (try simp (disch := omega) only [cmpT, cmpF, nI_toI, nI_subI, Int32.toInt_zero, setN_now, nI_add, nI_mul, nI_cl, alen20, alen21, bI_eq0, bI_ne0, nI_inj, Nat.add_zero] at *); omega)
      · obtain ⟨p, h4, h5⟩ := hw.par j (by omega) hj
        have e := wayF_s hw (by omega) hj h5 h4
        have ih := ih p h4 (c + 1) (by omega) (by omega)
        refine hX 1000 4 _ _ _ ?_
        repeat' (first | (intro hc) | (refine And.intro ?_ ?_) | (exact absurd nI_0 ‹cmpF 0 (nI 0) 0›) | (exact absurd ‹cmpT 0 (nI 1) 0› nI1_ne) | (exact absurd nI_0 ‹cmpT 1 (nI 0) 0›) | (exact absurd ‹cmpF 1 (nI 1) 0› nI1_ne) | (show wp _ _ _ _ _ _ _ _ _ _ _ _; conv => whnf))
        all_goals (clear h hX hcall)
        all_goals (simp (disch := omega) only [cmpT, cmpF, nI_toI, setN_now, nI_cl, alen20, takeL, setL, nI_add, nI_mul, Nat.add_zero] at *)
        all_goals first | omega | (rw [h5]; exact ih) | (exact absurd ‹nI j = 0› (nI_ne0 (by omega) (by omega)))
  exact loop k 1 hk (by omega)
set_option maxHeartbeats 4000000 in
set_option maxRecDepth 100000 in
theorem r_ofSite (hj : 29 + 17 * k + j < 509) (h : Q (some (.inl (F (29 + 17 * k + j)))) (setN s F)) : wpM L xs codT retT (f + 2) m_X10_ofSite [.inr (10, 0), .inl (nI k), .inl (nI j)] (setN s F) Q := by
  intro call hcall X hX; refine hX 1000 0 _ _ _ ?_
  repeat' (first | (intro hc) | (refine And.intro ?_ ?_) | (exact absurd nI_0 ‹cmpF 0 (nI 0) 0›) | (exact absurd ‹cmpT 0 (nI 1) 0› nI1_ne) | (exact absurd nI_0 ‹cmpT 1 (nI 0) 0›) | (exact absurd ‹cmpF 1 (nI 1) 0› nI1_ne) | (show wp _ _ _ _ _ _ _ _ _ _ _ _; conv => whnf) | (simp (disch := omega) only [nI_add, nI_mul]) | (refine hcall _ _ _ _ ?_; first | (refine r_siteAt ?_) | fail))
  all_goals (clear hX hcall)
  all_goals first | (clear h; (try simp (disch := omega) only [cmpT, cmpF, nI_toI, nI_subI, Int32.toInt_zero, setN_now, nI_add, nI_mul, nI_cl, alen20, alen21, bI_eq0, bI_ne0, nI_inj, Nat.add_zero] at *); omega) | (simp (disch := omega) only [setN_now, setN_put, setN_setN, nI_add, nI_mul, nI_cl, Nat.add_zero, Nat.reduceAdd, Nat.reduceMul]; exact h)
set_option maxHeartbeats 4000000 in
set_option maxRecDepth 100000 in
theorem r_has (hk : k < 8) (h : Q (some (.inl (bI (hasF F k name)))) (setN s F)) : wpM L xs codT retT (f + 3) m_X10_has [.inr (10, 0), .inl (nI k), .inl name] (setN s F) Q := by
  intro call hcall X hX; refine hX 1000 0 _ _ _ ?_
  repeat' (first | (intro hc) | (refine And.intro ?_ ?_) | (exact absurd nI_0 ‹cmpF 0 (nI 0) 0›) | (exact absurd ‹cmpT 0 (nI 1) 0› nI1_ne) | (exact absurd nI_0 ‹cmpT 1 (nI 0) 0›) | (exact absurd ‹cmpF 1 (nI 1) 0› nI1_ne) | (show wp _ _ _ _ _ _ _ _ _ _ _ _; conv => whnf) | (simp (disch := omega) only [nI_add, nI_mul]) | (refine hcall _ _ _ _ ?_; first | (refine r_ofSite (by omega) ?_) | fail))
  all_goals (clear hX hcall)
  all_goals first | decide | (refine bI_1 h ?_; clear h; unfold hasF; (try simp (disch := omega) only [cmpT, cmpF, nI_toI, nI_subI, Int32.toInt_zero, setN_now, nI_add, nI_mul, nI_cl, alen20, alen21, bI_eq0, bI_ne0, nI_inj, Nat.add_zero] at *); omega) | (refine bI_0 h ?_; clear h; unfold hasF; (try simp (disch := omega) only [cmpT, cmpF, nI_toI, nI_subI, Int32.toInt_zero, setN_now, nI_add, nI_mul, nI_cl, alen20, alen21, bI_eq0, bI_ne0, nI_inj, Nat.add_zero] at *); omega)
set_option maxHeartbeats 4000000 in
set_option maxRecDepth 100000 in
theorem r_homeOfSite (hw : WF F B) (hk : k < 8) (h : Q (some (.inl (nI (homeF F (F (29 + 17 * k)) (F (29 + 17 * k + 1)))))) (setN s F)) : wpM L xs codT retT (f + 4) m_X10_homeOfSite [.inr (10, 0), .inl (nI k)] (setN s F) Q := by
  intro call hcall X hX; refine hX 1000 0 _ _ _ ?_
  repeat' (first | (intro hc) | (refine And.intro ?_ ?_) | (exact absurd nI_0 ‹cmpF 0 (nI 0) 0›) | (exact absurd ‹cmpT 0 (nI 1) 0› nI1_ne) | (exact absurd nI_0 ‹cmpT 1 (nI 0) 0›) | (exact absurd ‹cmpF 1 (nI 1) 0› nI1_ne) | (show wp _ _ _ _ _ _ _ _ _ _ _ _; conv => whnf) | (simp (disch := omega) only [nI_add, nI_mul]) | (refine hcall _ _ _ _ ?_; first | (refine r_ofSite (by omega) ?_) | (refine r_homeOf hw ?_) | fail))
  exact h
set_option maxHeartbeats 4000000 in
set_option maxRecDepth 100000 in
theorem r_isRegistered (hk : k < 8) (h : Q (some (.inl (bI ((F 0).toInt < (F (29 + 17 * k + 4)).toInt)))) (setN s F)) : wpM L xs codT retT (f + 3) m_X10_isRegistered [.inr (10, 0), .inl (nI k)] (setN s F) Q := by
  intro call hcall X hX; refine hX 1000 0 _ _ _ ?_
  repeat' (first | (intro hc) | (refine And.intro ?_ ?_) | (exact absurd nI_0 ‹cmpF 0 (nI 0) 0›) | (exact absurd ‹cmpT 0 (nI 1) 0› nI1_ne) | (exact absurd nI_0 ‹cmpT 1 (nI 0) 0›) | (exact absurd ‹cmpF 1 (nI 1) 0› nI1_ne) | (show wp _ _ _ _ _ _ _ _ _ _ _ _; conv => whnf) | (simp (disch := omega) only [nI_add, nI_mul]) | (refine hcall _ _ _ _ ?_; first | (refine r_ofSite (by omega) ?_) | fail))
  all_goals (clear hX hcall)
  all_goals first | decide | (refine bI_1 h ?_; clear h; (try simp (disch := omega) only [cmpT, cmpF, nI_toI, nI_subI, Int32.toInt_zero, setN_now, nI_add, nI_mul, nI_cl, alen20, alen21, bI_eq0, bI_ne0, nI_inj, Nat.add_zero] at *); omega) | (refine bI_0 h ?_; clear h; (try simp (disch := omega) only [cmpT, cmpF, nI_toI, nI_subI, Int32.toInt_zero, setN_now, nI_add, nI_mul, nI_cl, alen20, alen21, bI_eq0, bI_ne0, nI_inj, Nat.add_zero] at *); omega) | (clear h; (try simp (disch := omega) only [cmpT, cmpF, nI_toI, nI_subI, Int32.toInt_zero, setN_now, nI_add, nI_mul, nI_cl, alen20, alen21, bI_eq0, bI_ne0, nI_inj, Nat.add_zero] at *); omega)
theorem upB_3 : upB F k 3 = true ↔ (F (29 + 17 * k + 5) = nI 1 ∨ F (29 + 17 * k + 9) = nI 1 ∨ F (29 + 17 * k + 13) = nI 1) := by
  simp only [upB, Bool.or_eq_true, decide_eq_true_eq, Bool.false_eq_true, false_or, or_assoc, ← Nat.add_assoc, Nat.mul_zero, Nat.add_zero, Nat.mul_one]
set_option maxHeartbeats 4000000 in
set_option maxRecDepth 100000 in
theorem r_isUp (hk : k < 8) (h : Q (some (.inl (bI (upF F k)))) (setN s F)) : wpM L xs codT retT (f + 4) m_X10_isUp [.inr (10, 0), .inl (nI k)] (setN s F) Q := by
  intro call hcall X hX; refine hX 1000 0 _ _ _ ?_
  repeat' (first | (intro hc) | (refine And.intro ?_ ?_) | (exact absurd nI_0 ‹cmpF 0 (nI 0) 0›) | (exact absurd ‹cmpT 0 (nI 1) 0› nI1_ne) | (exact absurd nI_0 ‹cmpT 1 (nI 0) 0›) | (exact absurd ‹cmpF 1 (nI 1) 0› nI1_ne) | (show wp _ _ _ _ _ _ _ _ _ _ _ _; conv => whnf))
  refine loopN (P := fun j => X 4 [.inr (10, 0), .inl (nI k), .inl (bI (upB F k j = true)), .inl (nI j)] [] (setN s F)) 3 (fun j hj ih => ?_) ?_ 0 (by omega)
  · refine hX 1000 4 _ _ _ ?_
    repeat' (first | (intro hc) | (refine And.intro ?_ ?_) | (exact absurd nI_0 ‹cmpF 0 (nI 0) 0›) | (exact absurd ‹cmpT 0 (nI 1) 0› nI1_ne) | (exact absurd nI_0 ‹cmpT 1 (nI 0) 0›) | (exact absurd ‹cmpF 1 (nI 1) 0› nI1_ne) | (show wp _ _ _ _ _ _ _ _ _ _ _ _; conv => whnf) | (simp (disch := omega) only [nI_add, nI_mul]) | (refine hcall _ _ _ _ ?_; first | (refine r_ofSite (by omega) ?_) | fail))
    all_goals (clear hX hcall h)
    all_goals (simp (disch := omega) only [cmpT, cmpF, nI_toI, bI_eq0, bI_ne0, Classical.not_not, takeL, setL, nI_add, nI_mul] at *)
    all_goals first
      | omega
      | (rw [show bI (upB F k (j + 1) = true) = bI (upB F k j = true) from bI_same (by rw [upB]; simp_all)] at ih; exact ih)
      | (rw [show bI (upB F k (j + 1) = true) = nI 1 from if_pos (by rw [upB]; simp_all)] at ih; exact ih)
      | (rw [show bI (upB F k (j + 1) = true) = nI 0 from if_neg (by rw [upB]; simp_all)] at ih; exact ih)
  · refine hX 1000 4 _ _ _ ?_
    repeat' (first | (intro hc) | (refine And.intro ?_ ?_) | (exact absurd nI_0 ‹cmpF 0 (nI 0) 0›) | (exact absurd ‹cmpT 0 (nI 1) 0› nI1_ne) | (exact absurd nI_0 ‹cmpT 1 (nI 0) 0›) | (exact absurd ‹cmpF 1 (nI 1) 0› nI1_ne) | (show wp _ _ _ _ _ _ _ _ _ _ _ _; conv => whnf) | (simp (disch := omega) only [nI_add, nI_mul]) | (refine hcall _ _ _ _ ?_; first | (refine r_isRegistered (by omega) ?_) | fail))
    all_goals (clear hX hcall)
    all_goals (simp (disch := omega) only [cmpT, cmpF, nI_toI, bI_eq0, bI_ne0, Classical.not_not, upB_3] at *)
    all_goals first | omega | decide | (refine bI_1 h ?_; exact ⟨by assumption, by assumption⟩) | (refine bI_0 h ?_; rintro ⟨q1, q2⟩; contradiction)
end REF2
