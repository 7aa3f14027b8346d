/-! THE REFERENCE: sums -/
def sumN (F : Fm) (w : Nat) : Nat → Int32
  | 0 => nI 0
  | n + 1 => sumN F w n + F (165 + 6 * n + w)
def ansP (F : Fm) : Nat → Bool := fun k => decide (ansF F (nI k) ≠ none)
section REF16
variable {L : Nat} {xs : Nat → Int32} {f i k r q c j n B b w : Nat} {x y v a z l name flow place : Int32} {s : St} {F G F' : Fm} {Q : Option MV → St → Prop} {p : Nat → Bool}
set_option maxHeartbeats 4000000 in
set_option maxRecDepth 100000 in
theorem r_sumOf (hw : WF F B) (hw6 : w < 6) (h : Q (some (.inl (sumN F w (cR F)))) (setN s F)) : wpM L xs codT retT (f + 2) m_X10_sumOf [.inr (10, 0), .inl (nI w)] (setN s F) Q := by
  have r2 := hw.r2
  intro call hcall X hX; refine hX 1000 0 _ _ _ ?_
  repeat' (first | (intro hc) | (refine And.intro ?_ ?_) | (exact absurd nI_0 ‹cmpF 0 (nI 0) 0›) | (exact absurd ‹cmpT 0 (nI 1) 0› nI1_ne) | (exact absurd nI_0 ‹cmpT 1 (nI 0) 0›) | (exact absurd ‹cmpF 1 (nI 1) 0› nI1_ne) | (show wp _ _ _ _ _ _ _ _ _ _ _ _; conv => whnf))
  have loop : ∀ j, j ≤ cR F → X 4 [.inr (10, 0), .inl (nI w), .inl (sumN F w j), .inl (nI j)] [] (setN s F) := by
    refine loopD (cR F) (fun j hj ih => ?_) ?_
    · clear h
      have ih2 : X 4 [.inr (10, 0), .inl (nI w), .inl (sumN F w j + F (165 + 6 * j + w)), .inl (nI (j + 1))] [] (setN s F) := ih
      clear ih
      refine hX 1000 4 _ _ _ ?_
      repeat' (first | (intro hc) | (refine And.intro ?_ ?_) | (exact absurd nI_0 ‹cmpF 0 (nI 0) 0›) | (exact absurd ‹cmpT 0 (nI 1) 0› nI1_ne) | (exact absurd nI_0 ‹cmpT 1 (nI 0) 0›) | (exact absurd ‹cmpF 1 (nI 1) 0› nI1_ne) | (show wp _ _ _ _ _ _ _ _ _ _ _ _; conv => whnf) | (simp (disch := omega) only [nI_add, nI_mul, setN_now, setN_put, nI_cl, Nat.add_zero]) | (refine hcall _ _ _ _ ?_; first | (refine r_routerAt ?_) | fail))
      all_goals ((try clear hX hcall); (try clear h); simp (disch := omega) only [cmpT, cmpF, bI_eq0, bI_ne0, Classical.not_not, nI_toI, setN_now, nI_cl, alen20, Int32.toInt_zero, hw.s1, hw.t1, hw.r1, nI_add, nI_mul, takeL, setL, setN_put] at *)
      all_goals first
        | exact ih2
        | omega
    · refine hX 1000 4 _ _ _ ?_
      repeat' (first | (intro hc) | (refine And.intro ?_ ?_) | (exact absurd nI_0 ‹cmpF 0 (nI 0) 0›) | (exact absurd ‹cmpT 0 (nI 1) 0› nI1_ne) | (exact absurd nI_0 ‹cmpT 1 (nI 0) 0›) | (exact absurd ‹cmpF 1 (nI 1) 0› nI1_ne) | (show wp _ _ _ _ _ _ _ _ _ _ _ _; conv => whnf))
      all_goals first
        | exact h
        | ((try clear hX hcall); (try clear h); simp (disch := omega) only [cmpT, cmpF, bI_eq0, bI_ne0, Classical.not_not, nI_toI, setN_now, nI_cl, alen20, Int32.toInt_zero, hw.s1, hw.t1, hw.r1, nI_add, nI_mul, takeL, setL, setN_put] at *; omega)
  simp only [takeL, setL]
  exact loop 0 (by omega)
set_option maxHeartbeats 4000000 in
set_option maxRecDepth 100000 in
theorem r_answered (hw : WF F B) (h : Q (some (.inl (nI (cntB (ansP F) 256)))) (setN s F)) : wpM L xs codT retT (f + 6) m_X10_answered [.inr (10, 0)] (setN s F) Q := by
  have t2 := hw.t2
  intro call hcall X hX; refine hX 1000 0 _ _ _ ?_
  repeat' (first | (intro hc) | (refine And.intro ?_ ?_) | (exact absurd nI_0 ‹cmpF 0 (nI 0) 0›) | (exact absurd ‹cmpT 0 (nI 1) 0› nI1_ne) | (exact absurd nI_0 ‹cmpT 1 (nI 0) 0›) | (exact absurd ‹cmpF 1 (nI 1) 0› nI1_ne) | (show wp _ _ _ _ _ _ _ _ _ _ _ _; conv => whnf))
  have loop : ∀ j, j ≤ 256 → X 4 [.inr (10, 0), .inl (nI (cntB (ansP F) j)), .inl (nI j)] [] (setN s F) := by
    refine loopD 256 (fun j hj ih => ?_) ?_
    · clear h
      have hle := cntB_le (p := ansP F) j
      cases hm : ansF F (nI j) with
      | some b =>
        have hb := ansF_lt hm
        have hb5 : ¬ nI b = -5 := nI_n5 (by omega)
        rw [cntB_1 (p := ansP F) (n := j) (decide_eq_true (by rw [hm]; exact fun q => nomatch q))] at ih
        refine hX 1000 4 _ _ _ ?_
        repeat' (first | (intro hc) | (refine And.intro ?_ ?_) | (exact absurd nI_0 ‹cmpF 0 (nI 0) 0›) | (exact absurd ‹cmpT 0 (nI 1) 0› nI1_ne) | (exact absurd nI_0 ‹cmpT 1 (nI 0) 0›) | (exact absurd ‹cmpF 1 (nI 1) 0› nI1_ne) | (show wp _ _ _ _ _ _ _ _ _ _ _ _; conv => whnf) | (simp (disch := omega) only [nI_add, nI_mul, setN_now, setN_put, nI_cl, Nat.add_zero]) | (refine hcall _ _ _ _ ?_; first | (refine r_answerOfE hw hm ?_) | fail))
        all_goals ((try clear hX hcall); (try clear h); simp (disch := omega) only [cmpT, cmpF, bI_eq0, bI_ne0, Classical.not_not, nI_toI, setN_now, nI_cl, alen20, Int32.toInt_zero, hw.s1, hw.t1, hw.r1, nI_add, nI_mul, takeL, setL, setN_put] at *)
        all_goals first
          | exact ih
          | omega
          | (exfalso; first | contradiction | omega)
      | none =>
        rw [cntB_0 (p := ansP F) (n := j) (fun q => of_decide_eq_true q hm)] at ih
        refine hX 1000 4 _ _ _ ?_
        repeat' (first | (intro hc) | (refine And.intro ?_ ?_) | (exact absurd nI_0 ‹cmpF 0 (nI 0) 0›) | (exact absurd ‹cmpT 0 (nI 1) 0› nI1_ne) | (exact absurd nI_0 ‹cmpT 1 (nI 0) 0›) | (exact absurd ‹cmpF 1 (nI 1) 0› nI1_ne) | (show wp _ _ _ _ _ _ _ _ _ _ _ _; conv => whnf) | (simp (disch := omega) only [nI_add, nI_mul, setN_now, setN_put, nI_cl, Nat.add_zero]) | (refine hcall _ _ _ _ ?_; first | (refine r_answerOfE hw hm ?_) | fail))
        all_goals ((try clear hX hcall); (try clear h); simp (disch := omega) only [cmpT, cmpF, bI_eq0, bI_ne0, Classical.not_not, nI_toI, setN_now, nI_cl, alen20, Int32.toInt_zero, hw.s1, hw.t1, hw.r1, nI_add, nI_mul, takeL, setL, setN_put] at *)
        all_goals first
          | exact ih
          | omega
          | (exfalso; first | contradiction | omega | exact (by assumption : ¬ _) rfl)
    · refine hX 1000 4 _ _ _ ?_
      repeat' (first | (intro hc) | (refine And.intro ?_ ?_) | (exact absurd nI_0 ‹cmpF 0 (nI 0) 0›) | (exact absurd ‹cmpT 0 (nI 1) 0› nI1_ne) | (exact absurd nI_0 ‹cmpT 1 (nI 0) 0›) | (exact absurd ‹cmpF 1 (nI 1) 0› nI1_ne) | (show wp _ _ _ _ _ _ _ _ _ _ _ _; conv => whnf))
      all_goals first
        | exact h
        | ((try clear hX hcall); (try clear h); simp (disch := omega) only [cmpT, cmpF, bI_eq0, bI_ne0, Classical.not_not, nI_toI, setN_now, nI_cl, alen20, Int32.toInt_zero, hw.s1, hw.t1, hw.r1, nI_add, nI_mul, takeL, setL, setN_put] at *; omega)
  simp only [takeL, setL]
  exact loop 0 (by omega)
def serverA (F : Fm) (v w : Int32) : Int32 := if ¬ iN v (cS F) then -1 else if ¬ iN w 6 then -2 else if w.toInt < 3 then F (5 + 3 * nn v + nn w) else if w.toInt = 3 then nI (cntB (childP F v) (cS F)) else if w.toInt = 4 then nI (wayF F (nn v)) else nI (cntB (homeP F v) (cT F))
def routA (F : Fm) (v w : Int32) : Int32 := if ¬ iN v (cR F) then -1 else if ¬ iN w 6 then -2 else F (165 + 6 * nn v + nn w)
def slotA (F : Fm) (v j w : Int32) : Int32 := if ¬ (iN v (cT F) ∧ iN j 3) then -1 else if ¬ iN w 3 then -2 else if F (29 + 17 * nn v + 5 + 4 * nn j) = nI 1 then F (29 + 17 * nn v + 5 + 4 * nn j + 1 + nn w) else -5
set_option maxHeartbeats 4000000 in
set_option maxRecDepth 100000 in
theorem r_router (hw : WF F B) (h : Q (some (.inl (routA F v a))) (setN s F)) : wpM L xs codT retT (f + 3) m_X10_router [.inr (10, 0), .inl v, .inl a] (setN s F) Q := by
  have r2 := hw.r2
  by_cases hv : iN v (cR F)
  · obtain ⟨r, hp, hpl⟩ := iN_nn hv (by omega)
    subst hp
    have en : nn (nI r) = r := nI_cl (by omega)
    by_cases hb : iN a 6
    · obtain ⟨j, hq, hql⟩ := iN_nn hb (by omega)
      subst hq
      have ej : nn (nI j) = j := nI_cl (by omega)
      have e : routA F (nI r) (nI j) = F (165 + 6 * r + j) := by unfold routA; rw [if_neg (fun q => q hv), if_neg (fun q => q hb), en, ej]
      rw [e] at h
      intro call hcall X hX; refine hX 1000 0 _ _ _ ?_
      repeat' (first | (intro hc) | (refine And.intro ?_ ?_) | (exact absurd nI_0 ‹cmpF 0 (nI 0) 0›) | (exact absurd ‹cmpT 0 (nI 1) 0› nI1_ne) | (exact absurd nI_0 ‹cmpT 1 (nI 0) 0›) | (exact absurd ‹cmpF 1 (nI 1) 0› nI1_ne) | (show wp _ _ _ _ _ _ _ _ _ _ _ _; conv => whnf) | (simp (disch := omega) only [nI_add, nI_mul, setN_now, setN_put, nI_cl, Nat.add_zero]) | (refine hcall _ _ _ _ ?_; first | (refine r_isRouter hw.r1 (by omega) ?_) | (refine r_isIn ?_) | (refine r_routerAt ?_) | fail))
      all_goals first
        | exact h
        | ((try clear hX hcall); (try clear h); simp (disch := omega) only [cmpT, cmpF, bI_eq0, bI_ne0, Classical.not_not, nI_toI, setN_now, nI_cl, alen20, Int32.toInt_zero, hw.s1, hw.t1, hw.r1, nI_add, nI_mul, takeL, setL, setN_put] at *; omega)
    · have e : routA F (nI r) a = -2 := by unfold routA; rw [if_neg (fun q => q hv), if_pos hb]
      rw [e] at h
      intro call hcall X hX; refine hX 1000 0 _ _ _ ?_
      repeat' (first | (intro hc) | (refine And.intro ?_ ?_) | (exact absurd nI_0 ‹cmpF 0 (nI 0) 0›) | (exact absurd ‹cmpT 0 (nI 1) 0› nI1_ne) | (exact absurd nI_0 ‹cmpT 1 (nI 0) 0›) | (exact absurd ‹cmpF 1 (nI 1) 0› nI1_ne) | (show wp _ _ _ _ _ _ _ _ _ _ _ _; conv => whnf) | (simp (disch := omega) only [nI_add, nI_mul, setN_now, setN_put, nI_cl, Nat.add_zero]) | (refine hcall _ _ _ _ ?_; first | (refine r_isRouter hw.r1 (by omega) ?_) | (refine r_isIn ?_) | (refine r_routerAt ?_) | fail))
      all_goals first
        | exact h
        | ((try clear hX hcall); (try clear h); simp (disch := omega) only [cmpT, cmpF, bI_eq0, bI_ne0, Classical.not_not, nI_toI, setN_now, nI_cl, alen20, Int32.toInt_zero, hw.s1, hw.t1, hw.r1, nI_add, nI_mul, takeL, setL, setN_put] at *; omega)
  · have e : routA F v a = -1 := by unfold routA; rw [if_pos hv]
    rw [e] at h
    intro call hcall X hX; refine hX 1000 0 _ _ _ ?_
    repeat' (first | (intro hc) | (refine And.intro ?_ ?_) | (exact absurd nI_0 ‹cmpF 0 (nI 0) 0›) | (exact absurd ‹cmpT 0 (nI 1) 0› nI1_ne) | (exact absurd nI_0 ‹cmpT 1 (nI 0) 0›) | (exact absurd ‹cmpF 1 (nI 1) 0› nI1_ne) | (show wp _ _ _ _ _ _ _ _ _ _ _ _; conv => whnf) | (simp (disch := omega) only [nI_add, nI_mul, setN_now, setN_put, nI_cl, Nat.add_zero]) | (refine hcall _ _ _ _ ?_; first | (refine r_isRouter hw.r1 (by omega) ?_) | (refine r_isIn ?_) | fail))
    all_goals first
      | exact h
      | ((try clear hX hcall); (try clear h); simp (disch := omega) only [cmpT, cmpF, bI_eq0, bI_ne0, Classical.not_not, nI_toI, setN_now, nI_cl, alen20, Int32.toInt_zero, hw.s1, hw.t1, hw.r1, nI_add, nI_mul, takeL, setL, setN_put] at *; omega)
set_option maxHeartbeats 4000000 in
set_option maxRecDepth 100000 in
theorem r_slot (hw : WF F B) (h : Q (some (.inl (slotA F v x a))) (setN s F)) : wpM L xs codT retT (f + 3) m_X10_slot [.inr (10, 0), .inl v, .inl x, .inl a] (setN s F) Q := by
  have t2 := hw.t2
  by_cases hv : iN v (cT F) ∧ iN x 3
  · obtain ⟨k, hp, hpl⟩ := iN_nn hv.1 (by omega)
    obtain ⟨i, hq, hql⟩ := iN_nn hv.2 (by omega)
    subst hp
    subst hq
    have en : nn (nI k) = k := nI_cl (by omega)
    have ei : nn (nI i) = i := nI_cl (by omega)
    by_cases hb : iN a 3
    · obtain ⟨j, hq, hql⟩ := iN_nn hb (by omega)
      subst hq
      have ej : nn (nI j) = j := nI_cl (by omega)
      have e : slotA F (nI k) (nI i) (nI j) = if F (29 + 17 * k + 5 + 4 * i) = nI 1 then F (29 + 17 * k + 5 + 4 * i + 1 + j) else -5 := by unfold slotA; rw [if_neg (fun q => q hv), if_neg (fun q => q hb), en, ej, ei]
      rw [e] at h
      by_cases hm : F (29 + 17 * k + 5 + 4 * i) = nI 1
      · rw [if_pos hm] at h
        intro call hcall X hX; refine hX 1000 0 _ _ _ ?_
        repeat' (first | (intro hc) | (refine And.intro ?_ ?_) | (exact absurd nI_0 ‹cmpF 0 (nI 0) 0›) | (exact absurd ‹cmpT 0 (nI 1) 0› nI1_ne) | (exact absurd nI_0 ‹cmpT 1 (nI 0) 0›) | (exact absurd ‹cmpF 1 (nI 1) 0› nI1_ne) | (show wp _ _ _ _ _ _ _ _ _ _ _ _; conv => whnf) | (simp (disch := omega) only [nI_add, nI_mul, setN_now, setN_put, nI_cl, Nat.add_zero]) | (refine hcall _ _ _ _ ?_; first | (refine r_isSite hw.t1 (by omega) ?_) | (refine r_isIn ?_) | (refine r_siteAt ?_) | fail))
        all_goals first
          | exact h
          | ((try clear hX hcall); (try clear h); simp (disch := omega) only [cmpT, cmpF, bI_eq0, bI_ne0, Classical.not_not, nI_toI, setN_now, nI_cl, alen20, Int32.toInt_zero, hw.s1, hw.t1, hw.r1, nI_add, nI_mul, takeL, setL, setN_put] at *; first | omega | contradiction)
      · rw [if_neg hm] at h
        intro call hcall X hX; refine hX 1000 0 _ _ _ ?_
        repeat' (first | (intro hc) | (refine And.intro ?_ ?_) | (exact absurd nI_0 ‹cmpF 0 (nI 0) 0›) | (exact absurd ‹cmpT 0 (nI 1) 0› nI1_ne) | (exact absurd nI_0 ‹cmpT 1 (nI 0) 0›) | (exact absurd ‹cmpF 1 (nI 1) 0› nI1_ne) | (show wp _ _ _ _ _ _ _ _ _ _ _ _; conv => whnf) | (simp (disch := omega) only [nI_add, nI_mul, setN_now, setN_put, nI_cl, Nat.add_zero]) | (refine hcall _ _ _ _ ?_; first | (refine r_isSite hw.t1 (by omega) ?_) | (refine r_isIn ?_) | (refine r_siteAt ?_) | fail))
        all_goals first
          | exact h
          | ((try clear hX hcall); (try clear h); simp (disch := omega) only [cmpT, cmpF, bI_eq0, bI_ne0, Classical.not_not, nI_toI, setN_now, nI_cl, alen20, Int32.toInt_zero, hw.s1, hw.t1, hw.r1, nI_add, nI_mul, takeL, setL, setN_put] at *; first | omega | contradiction)
    · have e : slotA F (nI k) (nI i) a = -2 := by unfold slotA; rw [if_neg (fun q => q hv), if_pos hb]
      rw [e] at h
      intro call hcall X hX; refine hX 1000 0 _ _ _ ?_
      repeat' (first | (intro hc) | (refine And.intro ?_ ?_) | (exact absurd nI_0 ‹cmpF 0 (nI 0) 0›) | (exact absurd ‹cmpT 0 (nI 1) 0› nI1_ne) | (exact absurd nI_0 ‹cmpT 1 (nI 0) 0›) | (exact absurd ‹cmpF 1 (nI 1) 0› nI1_ne) | (show wp _ _ _ _ _ _ _ _ _ _ _ _; conv => whnf) | (simp (disch := omega) only [nI_add, nI_mul, setN_now, setN_put, nI_cl, Nat.add_zero]) | (refine hcall _ _ _ _ ?_; first | (refine r_isSite hw.t1 (by omega) ?_) | (refine r_isIn ?_) | (refine r_siteAt ?_) | fail))
      all_goals first
        | exact h
        | ((try clear hX hcall); (try clear h); simp (disch := omega) only [cmpT, cmpF, bI_eq0, bI_ne0, Classical.not_not, nI_toI, setN_now, nI_cl, alen20, Int32.toInt_zero, hw.s1, hw.t1, hw.r1, nI_add, nI_mul, takeL, setL, setN_put] at *; omega)
  · have e : slotA F v x a = -1 := by unfold slotA; rw [if_pos hv]
    rw [e] at h
    intro call hcall X hX; refine hX 1000 0 _ _ _ ?_
    repeat' (first | (intro hc) | (refine And.intro ?_ ?_) | (exact absurd nI_0 ‹cmpF 0 (nI 0) 0›) | (exact absurd ‹cmpT 0 (nI 1) 0› nI1_ne) | (exact absurd nI_0 ‹cmpT 1 (nI 0) 0›) | (exact absurd ‹cmpF 1 (nI 1) 0› nI1_ne) | (show wp _ _ _ _ _ _ _ _ _ _ _ _; conv => whnf) | (simp (disch := omega) only [nI_add, nI_mul, setN_now, setN_put, nI_cl, Nat.add_zero]) | (refine hcall _ _ _ _ ?_; first | (refine r_isSite hw.t1 (by omega) ?_) | (refine r_isIn ?_) | (refine r_siteAt ?_) | fail))
    all_goals first
      | exact h
      | ((try clear hX hcall); (try clear h); simp (disch := omega) only [cmpT, cmpF, bI_eq0, bI_ne0, Classical.not_not, nI_toI, setN_now, nI_cl, alen20, Int32.toInt_zero, hw.s1, hw.t1, hw.r1, nI_add, nI_mul, takeL, setL, setN_put] at *; omega)
end REF16

theorem i_vc : Claimed_1_1 ∧ Claimed_1_2 := sorry
