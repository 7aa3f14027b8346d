/-! THE REFERENCE: counts -/
def cntB (p : Nat → Bool) : Nat → Nat
  | 0 => 0
  | n + 1 => cntB p n + (if p n = true then 1 else 0)
section REF15
variable {L : Nat} {xs : Nat → Int32} {f i k r q c j n B b : Nat} {x y v a z w l name flow place : Int32} {s : St} {F G F' : Fm} {Q : Option MV → St → Prop} {p : Nat → Bool}
theorem cntB_1 (h : p n = true) : cntB p (n + 1) = cntB p n + 1 := by show _ + (if _ then _ else _) = _; rw [if_pos h]
theorem cntB_0 (h : ¬ p n = true) : cntB p (n + 1) = cntB p n := by show _ + (if _ then _ else _) = _; rw [if_neg h]; rfl
theorem cntB_le : ∀ n, cntB p n ≤ n
  | 0 => Nat.le_refl _
  | n + 1 => by
    have := cntB_le n
    by_cases h : p n = true
    · rw [cntB_1 h]; omega
    · rw [cntB_0 h]; omega
def childP (F : Fm) (v : Int32) : Nat → Bool := fun k => decide (1 ≤ k ∧ F (5 + 3 * k) = v)
set_option maxHeartbeats 4000000 in
set_option maxRecDepth 100000 in
theorem r_children (hw : WF F B) (h : Q (some (.inl (nI (cntB (childP F v) (cS F))))) (setN s F)) : wpM L xs codT retT (f + 1) m_X10_children [.inr (10, 0), .inl v] (setN s F) Q := by
  have s2 := hw.s2
  intro call hcall X hX; refine hX 1000 0 _ _ _ ?_
  repeat' (first | (intro hc) | (refine And.intro ?_ ?_) | (exact absurd nI_0 ‹cmpF 0 (nI 0) 0›) | (exact absurd ‹cmpT 0 (nI 1) 0› nI1_ne) | (exact absurd nI_0 ‹cmpT 1 (nI 0) 0›) | (exact absurd ‹cmpF 1 (nI 1) 0› nI1_ne) | (show wp _ _ _ _ _ _ _ _ _ _ _ _; conv => whnf))
  have loop : ∀ j, j ≤ cS F - 1 → X 4 [.inr (10, 0), .inl v, .inl (nI (cntB (childP F v) (j + 1))), .inl (nI (j + 1))] [] (setN s F) := by
    refine loopD (cS F - 1) (fun j hj ih => ?_) ?_
    · clear h
      have hle := cntB_le (p := childP F v) (j + 1)
      by_cases hm : F (5 + 3 * (j + 1)) = v
      · rw [cntB_1 (p := childP F v) (n := j + 1) (decide_eq_true ⟨by omega, hm⟩)] at ih
        refine hX 1000 4 _ _ _ ?_
        repeat' (first | (intro hc) | (refine And.intro ?_ ?_) | (exact absurd nI_0 ‹cmpF 0 (nI 0) 0›) | (exact absurd ‹cmpT 0 (nI 1) 0› nI1_ne) | (exact absurd nI_0 ‹cmpT 1 (nI 0) 0›) | (exact absurd ‹cmpF 1 (nI 1) 0› nI1_ne) | (show wp _ _ _ _ _ _ _ _ _ _ _ _; conv => whnf))
        all_goals ((try clear hX hcall); (try clear h); simp (disch := omega) only [cmpT, cmpF, bI_eq0, bI_ne0, Classical.not_not, nI_toI, setN_now, nI_cl, alen20, Int32.toInt_zero, hw.s1, hw.t1, hw.r1, nI_add, nI_mul, takeL, setL, setN_put] at *)
        all_goals first
          | exact ih
          | omega
          | (exfalso; first | contradiction | omega)
      · rw [cntB_0 (p := childP F v) (n := j + 1) (fun q => hm (of_decide_eq_true q).2)] at ih
        refine hX 1000 4 _ _ _ ?_
        repeat' (first | (intro hc) | (refine And.intro ?_ ?_) | (exact absurd nI_0 ‹cmpF 0 (nI 0) 0›) | (exact absurd ‹cmpT 0 (nI 1) 0› nI1_ne) | (exact absurd nI_0 ‹cmpT 1 (nI 0) 0›) | (exact absurd ‹cmpF 1 (nI 1) 0› nI1_ne) | (show wp _ _ _ _ _ _ _ _ _ _ _ _; conv => whnf))
        all_goals ((try clear hX hcall); (try clear h); simp (disch := omega) only [cmpT, cmpF, bI_eq0, bI_ne0, Classical.not_not, nI_toI, setN_now, nI_cl, alen20, Int32.toInt_zero, hw.s1, hw.t1, hw.r1, nI_add, nI_mul, takeL, setL, setN_put] at *)
        all_goals first
          | exact ih
          | omega
          | (exfalso; first | contradiction | omega)
    · rw [show cS F - 1 + 1 = cS F by omega]
      refine hX 1000 4 _ _ _ ?_
      repeat' (first | (intro hc) | (refine And.intro ?_ ?_) | (exact absurd nI_0 ‹cmpF 0 (nI 0) 0›) | (exact absurd ‹cmpT 0 (nI 1) 0› nI1_ne) | (exact absurd nI_0 ‹cmpT 1 (nI 0) 0›) | (exact absurd ‹cmpF 1 (nI 1) 0› nI1_ne) | (show wp _ _ _ _ _ _ _ _ _ _ _ _; conv => whnf))
      all_goals first
        | exact h
        | ((try clear hX hcall); (try clear h); simp (disch := omega) only [cmpT, cmpF, bI_eq0, bI_ne0, Classical.not_not, nI_toI, setN_now, nI_cl, alen20, Int32.toInt_zero, hw.s1, hw.t1, hw.r1, nI_add, nI_mul, takeL, setL, setN_put] at *; omega)
  simp only [takeL, setL]
  exact loop 0 (by omega)
def upP (F : Fm) : Nat → Bool := fun k => decide (upF F k)
set_option maxHeartbeats 4000000 in
set_option maxRecDepth 100000 in
theorem r_upMany (hw : WF F B) (h : Q (some (.inl (nI (cntB (upP F) (cT F))))) (setN s F)) : wpM L xs codT retT (f + 5) m_X10_upMany [.inr (10, 0)] (setN s F) Q := by
  have t2 := hw.t2
  intro call hcall X hX; refine hX 1000 0 _ _ _ ?_
  repeat' (first | (intro hc) | (refine And.intro ?_ ?_) | (exact absurd nI_0 ‹cmpF 0 (nI 0) 0›) | (exact absurd ‹cmpT 0 (nI 1) 0› nI1_ne) | (exact absurd nI_0 ‹cmpT 1 (nI 0) 0›) | (exact absurd ‹cmpF 1 (nI 1) 0› nI1_ne) | (show wp _ _ _ _ _ _ _ _ _ _ _ _; conv => whnf))
  have loop : ∀ j, j ≤ cT F → X 4 [.inr (10, 0), .inl (nI (cntB (upP F) j)), .inl (nI j)] [] (setN s F) := by
    refine loopD (cT F) (fun j hj ih => ?_) ?_
    · clear h
      have hle := cntB_le (p := upP F) j
      by_cases hm : upF F j
      · rw [cntB_1 (p := upP F) (n := j) (decide_eq_true hm)] at ih
        refine hX 1000 4 _ _ _ ?_
        repeat' (first | (intro hc) | (refine And.intro ?_ ?_) | (exact absurd nI_0 ‹cmpF 0 (nI 0) 0›) | (exact absurd ‹cmpT 0 (nI 1) 0› nI1_ne) | (exact absurd nI_0 ‹cmpT 1 (nI 0) 0›) | (exact absurd ‹cmpF 1 (nI 1) 0› nI1_ne) | (show wp _ _ _ _ _ _ _ _ _ _ _ _; conv => whnf) | (simp (disch := omega) only [nI_add, nI_mul, setN_now, setN_put, nI_cl, Nat.add_zero]) | (refine hcall _ _ _ _ ?_; first | (refine r_isUp (by omega) ?_) | fail))
        all_goals ((try clear hX hcall); (try clear h); simp (disch := omega) only [cmpT, cmpF, bI_eq0, bI_ne0, Classical.not_not, nI_toI, setN_now, nI_cl, alen20, Int32.toInt_zero, hw.s1, hw.t1, hw.r1, nI_add, nI_mul, takeL, setL, setN_put] at *)
        all_goals first
          | exact ih
          | omega
          | (exfalso; first | contradiction | omega)
      · rw [cntB_0 (p := upP F) (n := j) (fun q => hm (of_decide_eq_true q))] at ih
        refine hX 1000 4 _ _ _ ?_
        repeat' (first | (intro hc) | (refine And.intro ?_ ?_) | (exact absurd nI_0 ‹cmpF 0 (nI 0) 0›) | (exact absurd ‹cmpT 0 (nI 1) 0› nI1_ne) | (exact absurd nI_0 ‹cmpT 1 (nI 0) 0›) | (exact absurd ‹cmpF 1 (nI 1) 0› nI1_ne) | (show wp _ _ _ _ _ _ _ _ _ _ _ _; conv => whnf) | (simp (disch := omega) only [nI_add, nI_mul, setN_now, setN_put, nI_cl, Nat.add_zero]) | (refine hcall _ _ _ _ ?_; first | (refine r_isUp (by omega) ?_) | fail))
        all_goals ((try clear hX hcall); (try clear h); simp (disch := omega) only [cmpT, cmpF, bI_eq0, bI_ne0, Classical.not_not, nI_toI, setN_now, nI_cl, alen20, Int32.toInt_zero, hw.s1, hw.t1, hw.r1, nI_add, nI_mul, takeL, setL, setN_put] at *)
        all_goals first
          | exact ih
          | omega
          | (exfalso; first | contradiction | omega)
    · refine hX 1000 4 _ _ _ ?_
      repeat' (first | (intro hc) | (refine And.intro ?_ ?_) | (exact absurd nI_0 ‹cmpF 0 (nI 0) 0›) | (exact absurd ‹cmpT 0 (nI 1) 0› nI1_ne) | (exact absurd nI_0 ‹cmpT 1 (nI 0) 0›) | (exact absurd ‹cmpF 1 (nI 1) 0› nI1_ne) | (show wp _ _ _ _ _ _ _ _ _ _ _ _; conv => whnf))
      all_goals first
        | exact h
        | ((try clear hX hcall); (try clear h); simp (disch := omega) only [cmpT, cmpF, bI_eq0, bI_ne0, Classical.not_not, nI_toI, setN_now, nI_cl, alen20, Int32.toInt_zero, hw.s1, hw.t1, hw.r1, nI_add, nI_mul, takeL, setL, setN_put] at *; omega)
  simp only [takeL, setL]
  exact loop 0 (by omega)
def homeP (F : Fm) (v : Int32) : Nat → Bool := fun k => decide (nI (homeF F (F (29 + 17 * k)) (F (29 + 17 * k + 1))) = v)
set_option maxHeartbeats 4000000 in
set_option maxRecDepth 100000 in
theorem r_sitesOf (hw : WF F B) (h : Q (some (.inl (nI (cntB (homeP F v) (cT F))))) (setN s F)) : wpM L xs codT retT (f + 5) m_X10_sitesOf [.inr (10, 0), .inl v] (setN s F) Q := by
  have t2 := hw.t2
  intro call hcall X hX; refine hX 1000 0 _ _ _ ?_
  repeat' (first | (intro hc) | (refine And.intro ?_ ?_) | (exact absurd nI_0 ‹cmpF 0 (nI 0) 0›) | (exact absurd ‹cmpT 0 (nI 1) 0› nI1_ne) | (exact absurd nI_0 ‹cmpT 1 (nI 0) 0›) | (exact absurd ‹cmpF 1 (nI 1) 0› nI1_ne) | (show wp _ _ _ _ _ _ _ _ _ _ _ _; conv => whnf))
  have loop : ∀ j, j ≤ cT F → X 4 [.inr (10, 0), .inl v, .inl (nI (cntB (homeP F v) j)), .inl (nI j)] [] (setN s F) := by
    refine loopD (cT F) (fun j hj ih => ?_) ?_
    · clear h
      have hle := cntB_le (p := homeP F v) j
      by_cases hm : nI (homeF F (F (29 + 17 * j)) (F (29 + 17 * j + 1))) = v
      · rw [cntB_1 (p := homeP F v) (n := j) (decide_eq_true hm)] at ih
        refine hX 1000 4 _ _ _ ?_
        repeat' (first | (intro hc) | (refine And.intro ?_ ?_) | (exact absurd nI_0 ‹cmpF 0 (nI 0) 0›) | (exact absurd ‹cmpT 0 (nI 1) 0› nI1_ne) | (exact absurd nI_0 ‹cmpT 1 (nI 0) 0›) | (exact absurd ‹cmpF 1 (nI 1) 0› nI1_ne) | (show wp _ _ _ _ _ _ _ _ _ _ _ _; conv => whnf) | (simp (disch := omega) only [nI_add, nI_mul, setN_now, setN_put, nI_cl, Nat.add_zero]) | (refine hcall _ _ _ _ ?_; first | (refine r_homeOfSite hw (by omega) ?_) | fail))
        all_goals ((try clear hX hcall); (try clear h); simp (disch := omega) only [cmpT, cmpF, bI_eq0, bI_ne0, Classical.not_not, nI_toI, setN_now, nI_cl, alen20, Int32.toInt_zero, hw.s1, hw.t1, hw.r1, nI_add, nI_mul, takeL, setL, setN_put] at *)
        all_goals first
          | exact ih
          | omega
          | (exfalso; first | contradiction | omega)
      · rw [cntB_0 (p := homeP F v) (n := j) (fun q => hm (of_decide_eq_true q))] at ih
        refine hX 1000 4 _ _ _ ?_
        repeat' (first | (intro hc) | (refine And.intro ?_ ?_) | (exact absurd nI_0 ‹cmpF 0 (nI 0) 0›) | (exact absurd ‹cmpT 0 (nI 1) 0› nI1_ne) | (exact absurd nI_0 ‹cmpT 1 (nI 0) 0›) | (exact absurd ‹cmpF 1 (nI 1) 0› nI1_ne) | (show wp _ _ _ _ _ _ _ _ _ _ _ _; conv => whnf) | (simp (disch := omega) only [nI_add, nI_mul, setN_now, setN_put, nI_cl, Nat.add_zero]) | (refine hcall _ _ _ _ ?_; first | (refine r_homeOfSite hw (by omega) ?_) | fail))
        all_goals ((try clear hX hcall); (try clear h); simp (disch := omega) only [cmpT, cmpF, bI_eq0, bI_ne0, Classical.not_not, nI_toI, setN_now, nI_cl, alen20, Int32.toInt_zero, hw.s1, hw.t1, hw.r1, nI_add, nI_mul, takeL, setL, setN_put] at *)
        all_goals first
          | exact ih
          | omega
          | (exfalso; first | contradiction | omega)
    · refine hX 1000 4 _ _ _ ?_
      repeat' (first | (intro hc) | (refine And.intro ?_ ?_) | (exact absurd nI_0 ‹cmpF 0 (nI 0) 0›) | (exact absurd ‹cmpT 0 (nI 1) 0› nI1_ne) | (exact absurd nI_0 ‹cmpT 1 (nI 0) 0›) | (exact absurd ‹cmpF 1 (nI 1) 0› nI1_ne) | (show wp _ _ _ _ _ _ _ _ _ _ _ _; conv => whnf))
      all_goals first
        | exact h
        | ((try clear hX hcall); (try clear h); simp (disch := omega) only [cmpT, cmpF, bI_eq0, bI_ne0, Classical.not_not, nI_toI, setN_now, nI_cl, alen20, Int32.toInt_zero, hw.s1, hw.t1, hw.r1, nI_add, nI_mul, takeL, setL, setN_put] at *; omega)
  simp only [takeL, setL]
  exact loop 0 (by omega)
end REF15
