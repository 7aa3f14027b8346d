/-! THE REFERENCE: sites' calls -/
section REF12
variable {L : Nat} {xs : Nat → Int32} {f i k r p q c j n B b : Nat} {x y v a z w l name flow place : Int32} {s : St} {F G F' : Fm} {Q : Option MV → St → Prop}
theorem anyS_s (h : anyS F a z n = true) : ∀ m, n ≤ m → anyS F a z m = true := by
  intro m hm
  induction m with
  | zero => rw [show n = 0 by omega] at h; exact h
  | succ m ih =>
    by_cases e : n = m + 1
    · rw [← e]; exact h
    · show (_ || _) = true
      rw [ih (by omega)]
      rfl
set_option maxHeartbeats 4000000 in
set_option maxRecDepth 100000 in
theorem r_registers (hk : k < 8) (h : Q (some (.inl (F 0 + F (29 + 17 * k + 2)))) (setN s (putF F (29 + 17 * k + 4) (F 0 + F (29 + 17 * k + 2))))) : wpM L xs codT retT (f + 3) m_X10_registers [.inr (10, 0), .inl (nI k)] (setN s F) Q := by
  intro call hcall X hX; refine hX 1000 0 _ _ _ ?_
  repeat' (first | (intro hc) | (refine And.intro ?_ ?_) | (exact absurd nI_0 ‹cmpF 0 (nI 0) 0›) | (exact absurd ‹cmpT 0 (nI 1) 0› nI1_ne) | (exact absurd nI_0 ‹cmpT 1 (nI 0) 0›) | (exact absurd ‹cmpF 1 (nI 1) 0› nI1_ne) | (show wp _ _ _ _ _ _ _ _ _ _ _ _; conv => whnf) | (simp (disch := omega) only [nI_add, nI_mul, setN_now, setN_put, nI_cl, Nat.add_zero]) | (refine hcall _ _ _ _ ?_; first | (refine r_siteAt ?_) | (refine r_ofSite (by omega) ?_) | fail))
  all_goals (try (clear h hX hcall; simp (disch := omega) only [nI_toI, alen20]; omega))
  simp (disch := omega) only [putF_at, setN_now, nI_cl, Nat.add_zero] at *
  exact h
set_option maxHeartbeats 4000000 in
set_option maxRecDepth 100000 in
theorem r_unregisters (hk : k < 8) (h : Q (some (.inl (F (29 + 17 * k + 4) - F 0))) (setN s (putF F (29 + 17 * k + 4) (F 0)))) : wpM L xs codT retT (f + 3) m_X10_unregisters [.inr (10, 0), .inl (nI k)] (setN s F) Q := by
  intro call hcall X hX; refine hX 1000 0 _ _ _ ?_
  repeat' (first | (intro hc) | (refine And.intro ?_ ?_) | (exact absurd nI_0 ‹cmpF 0 (nI 0) 0›) | (exact absurd ‹cmpT 0 (nI 1) 0› nI1_ne) | (exact absurd nI_0 ‹cmpT 1 (nI 0) 0›) | (exact absurd ‹cmpF 1 (nI 1) 0› nI1_ne) | (show wp _ _ _ _ _ _ _ _ _ _ _ _; conv => whnf) | (simp (disch := omega) only [nI_add, nI_mul, setN_now, setN_put, nI_cl, Nat.add_zero]) | (refine hcall _ _ _ _ ?_; first | (refine r_siteAt ?_) | (refine r_ofSite (by omega) ?_) | fail))
  all_goals (try (clear h hX hcall; simp (disch := omega) only [nI_toI, alen20]; omega))
  exact h
set_option maxHeartbeats 4000000 in
set_option maxRecDepth 100000 in
theorem r_register (hw : WF F B) (hn : n ≤ 5) (hs : s.1 10 0 3 = nI n) (h : Q (some (.inl (regF F v).1)) (doneS s G F n (regF F v))) : wpM L xs codT retT (f + 4) m_X10_register [.inr (10, 0), .inl v] (setN (setK s G) F) Q := by
  have t2 := hw.t2
  have hh := hw.h
  by_cases hv : iN v (cT F)
  · obtain ⟨k, hp, hpl⟩ := iN_nn hv (by omega)
    subst hp
    have en : nn (nI k) = k := nI_cl (by omega)
    have wl := (hw.site hpl).2.1
    have hs1 : (F 0 + F (29 + 17 * k + 2)).toInt = (F 0).toInt + (F (29 + 17 * k + 2)).toInt := by
      rw [Int32.toInt_add]
      apply Int.bmod_eq_of_le <;> omega
    have e : regF F (nI k) = (F 0 + F (29 + 17 * k + 2), putF F (29 + 17 * k + 4) (F 0 + F (29 + 17 * k + 2))) := by unfold regF; rw [if_neg (fun q => q hv), en]
    intro call hcall X hX; refine hX 1000 0 _ _ _ ?_
    repeat' (first | (intro hc) | (refine And.intro ?_ ?_) | (exact absurd nI_0 ‹cmpF 0 (nI 0) 0›) | (exact absurd ‹cmpT 0 (nI 1) 0› nI1_ne) | (exact absurd nI_0 ‹cmpT 1 (nI 0) 0›) | (exact absurd ‹cmpF 1 (nI 1) 0› nI1_ne) | (show wp _ _ _ _ _ _ _ _ _ _ _ _; conv => whnf) | (simp (disch := omega) only [nI_add, nI_mul, setN_now, setN_put, nI_cl, Nat.add_zero]) | (refine hcall _ _ _ _ ?_; first | (refine r_isSite hw.t1 (by omega) ?_) | (refine r_registers (by omega) ?_) | (refine r_records hn hs ?_) | fail))
    all_goals (try ((try clear hX hcall); (try clear h); simp (disch := omega) only [cmpT, cmpF, bI_eq0, bI_ne0, Classical.not_not, nI_toI, setN_now, nI_cl, alen20, Int32.toInt_zero, hw.s1, hw.t1, hw.r1, nI_add, nI_mul, takeL, setL, setN_put] at *; omega))
    exact doneS_p h e (by omega)
  · have e : regF F v = (-1, F) := by unfold regF; rw [if_pos hv]
    intro call hcall X hX; refine hX 1000 0 _ _ _ ?_
    repeat' (first | (intro hc) | (refine And.intro ?_ ?_) | (exact absurd nI_0 ‹cmpF 0 (nI 0) 0›) | (exact absurd ‹cmpT 0 (nI 1) 0› nI1_ne) | (exact absurd nI_0 ‹cmpT 1 (nI 0) 0›) | (exact absurd ‹cmpF 1 (nI 1) 0› nI1_ne) | (show wp _ _ _ _ _ _ _ _ _ _ _ _; conv => whnf) | (simp (disch := omega) only [nI_add, nI_mul, setN_now, setN_put, nI_cl, Nat.add_zero]) | (refine hcall _ _ _ _ ?_; first | (refine r_isSite hw.t1 (by omega) ?_) | fail))
    all_goals first
      | exact doneS_n h e (by decide)
      | ((try clear hX hcall); (try clear h); simp (disch := omega) only [cmpT, cmpF, bI_eq0, bI_ne0, Classical.not_not, nI_toI, setN_now, nI_cl, alen20, Int32.toInt_zero, hw.s1, hw.t1, hw.r1, nI_add, nI_mul, takeL, setL, setN_put] at *; omega)
set_option maxHeartbeats 4000000 in
set_option maxRecDepth 100000 in
theorem r_unregErr (hw : WF F B) (h : Q (some (.inl (if ¬ iN v (cT F) then -1 else if (F 0).toInt < (F (29 + 17 * nn v + 4)).toInt then nI 0 else -3))) (setN s F)) : wpM L xs codT retT (f + 4) m_X10_unregisterError [.inr (10, 0), .inl v] (setN s F) Q := by
  have t2 := hw.t2
  by_cases hv : iN v (cT F)
  · obtain ⟨k, hp, hpl⟩ := iN_nn hv (by omega)
    subst hp
    have en : nn (nI k) = k := nI_cl (by omega)
    rw [if_neg (fun q => q hv), en] at h
    by_cases hr : (F 0).toInt < (F (29 + 17 * k + 4)).toInt
    · rw [if_pos hr] at h
      intro call hcall X hX; refine hX 1000 0 _ _ _ ?_
      repeat' (first | (intro hc) | (refine And.intro ?_ ?_) | (exact absurd nI_0 ‹cmpF 0 (nI 0) 0›) | (exact absurd ‹cmpT 0 (nI 1) 0› nI1_ne) | (exact absurd nI_0 ‹cmpT 1 (nI 0) 0›) | (exact absurd ‹cmpF 1 (nI 1) 0› nI1_ne) | (show wp _ _ _ _ _ _ _ _ _ _ _ _; conv => whnf) | (simp (disch := omega) only [nI_add, nI_mul, setN_now, setN_put, nI_cl, Nat.add_zero]) | (refine hcall _ _ _ _ ?_; first | (refine r_isSite hw.t1 (by omega) ?_) | (refine r_isRegistered (by omega) ?_) | fail))
      all_goals first
        | exact h
        | ((try clear hX hcall); (try clear h); simp (disch := omega) only [cmpT, cmpF, bI_eq0, bI_ne0, Classical.not_not, nI_toI, setN_now, nI_cl, alen20, Int32.toInt_zero, hw.s1, hw.t1, hw.r1, nI_add, nI_mul, takeL, setL, setN_put] at *; omega)
    · rw [if_neg hr] at h
      intro call hcall X hX; refine hX 1000 0 _ _ _ ?_
      repeat' (first | (intro hc) | (refine And.intro ?_ ?_) | (exact absurd nI_0 ‹cmpF 0 (nI 0) 0›) | (exact absurd ‹cmpT 0 (nI 1) 0› nI1_ne) | (exact absurd nI_0 ‹cmpT 1 (nI 0) 0›) | (exact absurd ‹cmpF 1 (nI 1) 0› nI1_ne) | (show wp _ _ _ _ _ _ _ _ _ _ _ _; conv => whnf) | (simp (disch := omega) only [nI_add, nI_mul, setN_now, setN_put, nI_cl, Nat.add_zero]) | (refine hcall _ _ _ _ ?_; first | (refine r_isSite hw.t1 (by omega) ?_) | (refine r_isRegistered (by omega) ?_) | fail))
      all_goals first
        | exact h
        | ((try clear hX hcall); (try clear h); simp (disch := omega) only [cmpT, cmpF, bI_eq0, bI_ne0, Classical.not_not, nI_toI, setN_now, nI_cl, alen20, Int32.toInt_zero, hw.s1, hw.t1, hw.r1, nI_add, nI_mul, takeL, setL, setN_put] at *; omega)
  · rw [if_pos hv] at h
    intro call hcall X hX; refine hX 1000 0 _ _ _ ?_
    repeat' (first | (intro hc) | (refine And.intro ?_ ?_) | (exact absurd nI_0 ‹cmpF 0 (nI 0) 0›) | (exact absurd ‹cmpT 0 (nI 1) 0› nI1_ne) | (exact absurd nI_0 ‹cmpT 1 (nI 0) 0›) | (exact absurd ‹cmpF 1 (nI 1) 0› nI1_ne) | (show wp _ _ _ _ _ _ _ _ _ _ _ _; conv => whnf) | (simp (disch := omega) only [nI_add, nI_mul, setN_now, setN_put, nI_cl, Nat.add_zero]) | (refine hcall _ _ _ _ ?_; first | (refine r_isSite hw.t1 (by omega) ?_) | fail))
    all_goals first
      | exact h
      | ((try clear hX hcall); (try clear h); simp (disch := omega) only [cmpT, cmpF, bI_eq0, bI_ne0, Classical.not_not, nI_toI, setN_now, nI_cl, alen20, Int32.toInt_zero, hw.s1, hw.t1, hw.r1, nI_add, nI_mul, takeL, setL, setN_put] at *; omega)
theorem r_unregErrE (hw : WF F B) (e : (if ¬ iN v (cT F) then -1 else if (F 0).toInt < (F (29 + 17 * nn v + 4)).toInt then nI 0 else -3) = x) (h : Q (some (.inl x)) (setN s F)) : wpM L xs codT retT (f + 4) m_X10_unregisterError [.inr (10, 0), .inl v] (setN s F) Q := r_unregErr hw (by rw [e]; exact h)
set_option maxHeartbeats 4000000 in
set_option maxRecDepth 100000 in
theorem r_unregister (hw : WF F B) (hn : n ≤ 5) (hs : s.1 10 0 3 = nI n) (h : Q (some (.inl (unregF F v).1)) (doneS s G F n (unregF F v))) : wpM L xs codT retT (f + 5) m_X10_unregister [.inr (10, 0), .inl v] (setN (setK s G) F) Q := by
  have t2 := hw.t2
  have hh := hw.h
  by_cases hv : iN v (cT F)
  · obtain ⟨k, hp, hpl⟩ := iN_nn hv (by omega)
    subst hp
    have en : nn (nI k) = k := nI_cl (by omega)
    have we := (hw.site hpl).2.2.2.1
    have hs1 : (F (29 + 17 * k + 4) - F 0).toInt = (F (29 + 17 * k + 4)).toInt - (F 0).toInt := by
      rw [Int32.toInt_sub]
      apply Int.bmod_eq_of_le <;> omega
    by_cases hr : (F 0).toInt < (F (29 + 17 * k + 4)).toInt
    · have e : unregF F (nI k) = (F (29 + 17 * k + 4) - F 0, putF F (29 + 17 * k + 4) (F 0)) := by unfold unregF; rw [if_neg (fun q => q hv), en, if_neg (fun q => q hr)]
      intro call hcall X hX; refine hX 1000 0 _ _ _ ?_
      have e2 : (if ¬ iN (nI k) (cT F) then -1 else if (F 0).toInt < (F (29 + 17 * nn (nI k) + 4)).toInt then nI 0 else -3) = nI 0 := by rw [if_neg (fun q => q hv), en, if_pos hr]
      repeat' (first | (intro hc) | (refine And.intro ?_ ?_) | (exact absurd nI_0 ‹cmpF 0 (nI 0) 0›) | (exact absurd ‹cmpT 0 (nI 1) 0› nI1_ne) | (exact absurd nI_0 ‹cmpT 1 (nI 0) 0›) | (exact absurd ‹cmpF 1 (nI 1) 0› nI1_ne) | (show wp _ _ _ _ _ _ _ _ _ _ _ _; conv => whnf) | (simp (disch := omega) only [nI_add, nI_mul, setN_now, setN_put, nI_cl, Nat.add_zero]) | (refine hcall _ _ _ _ ?_; first | (refine r_unregErrE hw e2 ?_) | (refine r_unregisters (by omega) ?_) | (refine r_records hn hs ?_) | fail))
      exact doneS_p h e (by omega)
    · have e : unregF F (nI k) = (-3, F) := by unfold unregF; rw [if_neg (fun q => q hv), en, if_pos hr]
      intro call hcall X hX; refine hX 1000 0 _ _ _ ?_
      have e2 : (if ¬ iN (nI k) (cT F) then -1 else if (F 0).toInt < (F (29 + 17 * nn (nI k) + 4)).toInt then nI 0 else -3) = -3 := by rw [if_neg (fun q => q hv), en, if_neg hr]
      repeat' (first | (intro hc) | (refine And.intro ?_ ?_) | (exact absurd nI_0 ‹cmpF 0 (nI 0) 0›) | (exact absurd ‹cmpT 0 (nI 1) 0› nI1_ne) | (exact absurd nI_0 ‹cmpT 1 (nI 0) 0›) | (exact absurd ‹cmpF 1 (nI 1) 0› nI1_ne) | (show wp _ _ _ _ _ _ _ _ _ _ _ _; conv => whnf) | (simp (disch := omega) only [nI_add, nI_mul, setN_now, setN_put, nI_cl, Nat.add_zero]) | (refine hcall _ _ _ _ ?_; first | (refine r_unregErrE hw e2 ?_) | (refine r_unregisters (by omega) ?_) | (refine r_records hn hs ?_) | fail))
      all_goals first
        | exact doneS_n h e (by decide)
        | (have hq : (-3 : Int32) = 0 := ‹cmpT 0 (-3) 0›; exact absurd hq (by decide))
  · have e : unregF F v = (-1, F) := by unfold unregF; rw [if_pos hv]
    intro call hcall X hX; refine hX 1000 0 _ _ _ ?_
    have e2 : (if ¬ iN v (cT F) then -1 else if (F 0).toInt < (F (29 + 17 * nn v + 4)).toInt then nI 0 else -3) = -1 := by rw [if_pos hv]
    repeat' (first | (intro hc) | (refine And.intro ?_ ?_) | (exact absurd nI_0 ‹cmpF 0 (nI 0) 0›) | (exact absurd ‹cmpT 0 (nI 1) 0› nI1_ne) | (exact absurd nI_0 ‹cmpT 1 (nI 0) 0›) | (exact absurd ‹cmpF 1 (nI 1) 0› nI1_ne) | (show wp _ _ _ _ _ _ _ _ _ _ _ _; conv => whnf) | (simp (disch := omega) only [nI_add, nI_mul, setN_now, setN_put, nI_cl, Nat.add_zero]) | (refine hcall _ _ _ _ ?_; first | (refine r_unregErrE hw e2 ?_) | (refine r_records hn hs ?_) | fail))
    all_goals first
      | exact doneS_n h e (by decide)
      | (have hq : (-1 : Int32) = 0 := ‹cmpT 0 (-1) 0›; exact absurd hq (by decide))
set_option maxHeartbeats 4000000 in
set_option maxRecDepth 100000 in
theorem r_setSlot (hw : WF F B) (hn : n ≤ 5) (hs : s.1 10 0 3 = nI n) (h1 : B < 1000000) (h : Q (some (.inl (fillSF F v a z w l).1)) (doneS s G F n (fillSF F v a z w l))) : wpM L xs codT retT (f + 3) m_X10_setSlot [.inr (10, 0), .inl v, .inl a, .inl z, .inl w, .inl l] (setN (setK s G) F) Q := by
  have t2 := hw.t2
  by_cases hv : iN v (cT F) ∧ iN a 3
  · obtain ⟨k, hp, hpl⟩ := iN_nn hv.1 (by omega)
    obtain ⟨j, hq, hql⟩ := iN_nn hv.2 (by omega)
    subst hp
    subst hq
    have en : nn (nI k) = k := nI_cl (by omega)
    have ej : nn (nI j) = j := nI_cl (by omega)
    have wv := (hw.site hpl).2.2.1
    have hs1 : (F (29 + 17 * k + 3) + nI 1).toInt = (F (29 + 17 * k + 3)).toInt + 1 := by
      rw [Int32.toInt_add, nI_toI (by omega)]
      apply Int.bmod_eq_of_le <;> omega
    by_cases hb : iN z 32 ∧ iN w 10 ∧ 1 ≤ l.toInt ∧ l.toInt ≤ 9
    · have e : fillSF F (nI k) (nI j) z w l = (F (29 + 17 * k + 3) + nI 1, fun i => if i = 29 + 17 * k + 5 + 4 * j then nI 1 else if i = 29 + 17 * k + 5 + 4 * j + 1 then z else if i = 29 + 17 * k + 5 + 4 * j + 2 then w else if i = 29 + 17 * k + 5 + 4 * j + 3 then l else if i = 29 + 17 * k + 3 then F i + nI 1 else F i) := by
        unfold fillSF
        rw [if_neg (fun q => q hv), en, ej, if_neg (fun q => q hb)]
      intro call hcall X hX; refine hX 1000 0 _ _ _ ?_
      repeat' (first | (intro hc) | (refine And.intro ?_ ?_) | (exact absurd nI_0 ‹cmpF 0 (nI 0) 0›) | (exact absurd ‹cmpT 0 (nI 1) 0› nI1_ne) | (exact absurd nI_0 ‹cmpT 1 (nI 0) 0›) | (exact absurd ‹cmpF 1 (nI 1) 0› nI1_ne) | (show wp _ _ _ _ _ _ _ _ _ _ _ _; conv => whnf) | (simp (disch := omega) only [nI_add, nI_mul, setN_now, setN_put, nI_cl, Nat.add_zero]) | (refine hcall _ _ _ _ ?_; first | (refine r_isSite hw.t1 (by omega) ?_) | (refine r_isIn ?_) | (refine r_siteAt ?_) | (refine r_ofSite (by omega) ?_) | (refine r_records hn hs ?_) | fail))
      all_goals (try ((try clear hX hcall); (try clear h); simp (disch := omega) only [cmpT, cmpF, bI_eq0, bI_ne0, Classical.not_not, nI_toI, setN_now, nI_cl, alen20, Int32.toInt_zero, hw.s1, hw.t1, hw.r1, nI_add, nI_mul, takeL, setL, setN_put] at *; omega))
      refine recS_go (doneS_p h e (by omega)) ?_ ?_
      · simp (disch := omega) only [putF_at, putF_ne, nI_cl, nI_add, nI_mul]
      · funext i
        simp (disch := omega) only [putF, nI_cl, nI_add, nI_mul]
        (repeat' split) <;> first | rfl | omega | (exfalso; omega) | (subst_vars; rfl)
    · have e : fillSF F (nI k) (nI j) z w l = (-2, F) := by
        unfold fillSF
        rw [if_neg (fun q => q hv), if_pos hb]
      intro call hcall X hX; refine hX 1000 0 _ _ _ ?_
      repeat' (first | (intro hc) | (refine And.intro ?_ ?_) | (exact absurd nI_0 ‹cmpF 0 (nI 0) 0›) | (exact absurd ‹cmpT 0 (nI 1) 0› nI1_ne) | (exact absurd nI_0 ‹cmpT 1 (nI 0) 0›) | (exact absurd ‹cmpF 1 (nI 1) 0› nI1_ne) | (show wp _ _ _ _ _ _ _ _ _ _ _ _; conv => whnf) | (simp (disch := omega) only [nI_add, nI_mul, setN_now, setN_put, nI_cl, Nat.add_zero]) | (refine hcall _ _ _ _ ?_; first | (refine r_isSite hw.t1 (by omega) ?_) | (refine r_isIn ?_) | (refine r_siteAt ?_) | (refine r_ofSite (by omega) ?_) | (refine r_records hn hs ?_) | fail))
      all_goals first
        | exact doneS_n h e (by decide)
        | ((try clear hX hcall); (try clear h); simp (disch := omega) only [cmpT, cmpF, bI_eq0, bI_ne0, Classical.not_not, nI_toI, setN_now, nI_cl, alen20, Int32.toInt_zero, hw.s1, hw.t1, hw.r1, nI_add, nI_mul, takeL, setL, setN_put] at *; omega)
  · have e : fillSF F v a z w l = (-1, F) := by unfold fillSF; rw [if_pos hv]
    intro call hcall X hX; refine hX 1000 0 _ _ _ ?_
    repeat' (first | (intro hc) | (refine And.intro ?_ ?_) | (exact absurd nI_0 ‹cmpF 0 (nI 0) 0›) | (exact absurd ‹cmpT 0 (nI 1) 0› nI1_ne) | (exact absurd nI_0 ‹cmpT 1 (nI 0) 0›) | (exact absurd ‹cmpF 1 (nI 1) 0› nI1_ne) | (show wp _ _ _ _ _ _ _ _ _ _ _ _; conv => whnf) | (simp (disch := omega) only [nI_add, nI_mul, setN_now, setN_put, nI_cl, Nat.add_zero]) | (refine hcall _ _ _ _ ?_; first | (refine r_isSite hw.t1 (by omega) ?_) | (refine r_isIn ?_) | fail))
    all_goals first
      | exact doneS_n h e (by decide)
      | ((try clear hX hcall); (try clear h); simp (disch := omega) only [cmpT, cmpF, bI_eq0, bI_ne0, Classical.not_not, nI_toI, setN_now, nI_cl, alen20, Int32.toInt_zero, hw.s1, hw.t1, hw.r1, nI_add, nI_mul, takeL, setL, setN_put] at *; omega)
set_option maxHeartbeats 4000000 in
set_option maxRecDepth 100000 in
theorem r_emptySlot (hw : WF F B) (hn : n ≤ 5) (hs : s.1 10 0 3 = nI n) (h1 : B < 1000000) (h : Q (some (.inl (vacF F v a).1)) (doneS s G F n (vacF F v a))) : wpM L xs codT retT (f + 3) m_X10_emptySlot [.inr (10, 0), .inl v, .inl a] (setN (setK s G) F) Q := by
  have t2 := hw.t2
  by_cases hv : iN v (cT F) ∧ iN a 3
  · obtain ⟨k, hp, hpl⟩ := iN_nn hv.1 (by omega)
    obtain ⟨j, hq, hql⟩ := iN_nn hv.2 (by omega)
    subst hp
    subst hq
    have en : nn (nI k) = k := nI_cl (by omega)
    have ej : nn (nI j) = j := nI_cl (by omega)
    have wv := (hw.site hpl).2.2.1
    have hs1 : (F (29 + 17 * k + 3) + nI 1).toInt = (F (29 + 17 * k + 3)).toInt + 1 := by
      rw [Int32.toInt_add, nI_toI (by omega)]
      apply Int.bmod_eq_of_le <;> omega
    by_cases hb : F (29 + 17 * k + 5 + 4 * j) = nI 0
    · have e : vacF F (nI k) (nI j) = (-3, F) := by
        unfold vacF
        rw [if_neg (fun q => q hv), en, ej, if_pos hb]
      intro call hcall X hX; refine hX 1000 0 _ _ _ ?_
      repeat' (first | (intro hc) | (refine And.intro ?_ ?_) | (exact absurd nI_0 ‹cmpF 0 (nI 0) 0›) | (exact absurd ‹cmpT 0 (nI 1) 0› nI1_ne) | (exact absurd nI_0 ‹cmpT 1 (nI 0) 0›) | (exact absurd ‹cmpF 1 (nI 1) 0› nI1_ne) | (show wp _ _ _ _ _ _ _ _ _ _ _ _; conv => whnf) | (simp (disch := omega) only [nI_add, nI_mul, setN_now, setN_put, nI_cl, Nat.add_zero]) | (refine hcall _ _ _ _ ?_; first | (refine r_isSite hw.t1 (by omega) ?_) | (refine r_isIn ?_) | (refine r_siteAt ?_) | (refine r_ofSite (by omega) ?_) | (refine r_records hn hs ?_) | fail))
      all_goals first
        | exact doneS_n h e (by decide)
        | (have hb0 := hb.trans nI_0; (try clear hX hcall); (try clear h); simp (disch := omega) only [cmpT, cmpF, bI_eq0, bI_ne0, Classical.not_not, nI_toI, setN_now, nI_cl, alen20, Int32.toInt_zero, hw.s1, hw.t1, hw.r1, nI_add, nI_mul, takeL, setL, setN_put] at *; first | omega | contradiction)
    · have e : vacF F (nI k) (nI j) = (F (29 + 17 * k + 3) + nI 1, fun i => if i = 29 + 17 * k + 5 + 4 * j then nI 0 else if i = 29 + 17 * k + 3 then F i + nI 1 else F i) := by
        unfold vacF
        rw [if_neg (fun q => q hv), en, ej, if_neg hb]
      intro call hcall X hX; refine hX 1000 0 _ _ _ ?_
      repeat' (first | (intro hc) | (refine And.intro ?_ ?_) | (exact absurd nI_0 ‹cmpF 0 (nI 0) 0›) | (exact absurd ‹cmpT 0 (nI 1) 0› nI1_ne) | (exact absurd nI_0 ‹cmpT 1 (nI 0) 0›) | (exact absurd ‹cmpF 1 (nI 1) 0› nI1_ne) | (show wp _ _ _ _ _ _ _ _ _ _ _ _; conv => whnf) | (simp (disch := omega) only [nI_add, nI_mul, setN_now, setN_put, nI_cl, Nat.add_zero]) | (refine hcall _ _ _ _ ?_; first | (refine r_isSite hw.t1 (by omega) ?_) | (refine r_isIn ?_) | (refine r_siteAt ?_) | (refine r_ofSite (by omega) ?_) | (refine r_records hn hs ?_) | fail))
      all_goals (try (have hb0 : ¬ F (29 + 17 * k + 5 + 4 * j) = 0 := fun q => hb (q.trans nI_0.symm); (try clear hX hcall); (try clear h); simp (disch := omega) only [cmpT, cmpF, bI_eq0, bI_ne0, Classical.not_not, nI_toI, setN_now, nI_cl, alen20, Int32.toInt_zero, hw.s1, hw.t1, hw.r1, nI_add, nI_mul, takeL, setL, setN_put] at *; first | omega | contradiction))
      refine recS_go (doneS_p h e (by omega)) ?_ ?_
      · simp (disch := omega) only [putF_at, putF_ne, nI_cl, nI_add, nI_mul]
      · funext i
        simp (disch := omega) only [putF, nI_cl, nI_add, nI_mul]
        (repeat' split) <;> first | rfl | omega | (exfalso; omega) | (subst_vars; rfl)
  · have e : vacF F v a = (-1, F) := by unfold vacF; rw [if_pos hv]
    intro call hcall X hX; refine hX 1000 0 _ _ _ ?_
    repeat' (first | (intro hc) | (refine And.intro ?_ ?_) | (exact absurd nI_0 ‹cmpF 0 (nI 0) 0›) | (exact absurd ‹cmpT 0 (nI 1) 0› nI1_ne) | (exact absurd nI_0 ‹cmpT 1 (nI 0) 0›) | (exact absurd ‹cmpF 1 (nI 1) 0› nI1_ne) | (show wp _ _ _ _ _ _ _ _ _ _ _ _; conv => whnf) | (simp (disch := omega) only [nI_add, nI_mul, setN_now, setN_put, nI_cl, Nat.add_zero]) | (refine hcall _ _ _ _ ?_; first | (refine r_isSite hw.t1 (by omega) ?_) | (refine r_isIn ?_) | fail))
    all_goals first
      | exact doneS_n h e (by decide)
      | ((try clear hX hcall); (try clear h); simp (disch := omega) only [cmpT, cmpF, bI_eq0, bI_ne0, Classical.not_not, nI_toI, setN_now, nI_cl, alen20, Int32.toInt_zero, hw.s1, hw.t1, hw.r1, nI_add, nI_mul, takeL, setL, setN_put] at *; omega)
set_option maxHeartbeats 4000000 in
set_option maxRecDepth 100000 in
theorem r_addSite (hw : WF F B) (hn : n ≤ 5) (hs : s.1 10 0 3 = nI n) (h : Q (some (.inl (siteF F a z l).1)) (doneS s G F n (siteF F a z l))) : wpM L xs codT retT (f + 4) m_X10_addSite [.inr (10, 0), .inl a, .inl z, .inl l] (setN (setK s G) F) Q := by
  have t2 := hw.t2
  by_cases hb : blkB a z ∧ 1 ≤ l.toInt ∧ l.toInt ≤ 48
  · have e0 : siteF F a z l = if anyS F a z (cT F) = true then (-3, F) else if cT F = 8 then (-4, F) else (nI (cT F), fun i => if i = 29 + 17 * cT F then a else if i = 29 + 17 * cT F + 1 then z else if i = 29 + 17 * cT F + 2 then l else if i = 29 + 17 * cT F + 3 then nI 1 else if 29 + 17 * cT F + 4 ≤ i ∧ i < 29 + 17 * cT F + 17 then nI 0 else if i = 2 then F 2 + nI 1 else F i) := by
      unfold siteF
      rw [if_neg (fun q => q hb)]
    intro call hcall X hX; refine hX 1000 0 _ _ _ ?_
    repeat' (first | (intro hc) | (refine And.intro ?_ ?_) | (exact absurd nI_0 ‹cmpF 0 (nI 0) 0›) | (exact absurd ‹cmpT 0 (nI 1) 0› nI1_ne) | (exact absurd nI_0 ‹cmpT 1 (nI 0) 0›) | (exact absurd ‹cmpF 1 (nI 1) 0› nI1_ne) | (show wp _ _ _ _ _ _ _ _ _ _ _ _; conv => whnf) | (simp (disch := omega) only [nI_add, nI_mul, setN_now, setN_put, nI_cl, Nat.add_zero]) | (refine hcall _ _ _ _ ?_; first | (refine r_isBlock ?_) | (refine r_isIn ?_) | fail))
    all_goals (try ((try clear hX hcall); (try clear h); simp (disch := omega) only [cmpT, cmpF, bI_eq0, bI_ne0, Classical.not_not, nI_toI, setN_now, nI_cl, alen20, Int32.toInt_zero, hw.s1, hw.t1, hw.r1, nI_add, nI_mul, takeL, setL, setN_put] at *; exfalso; first | contradiction | omega | exact (by assumption : ¬ _) hb.1))
    have loop : ∀ j, j ≤ cT F → anyS F a z j = false → X 24 [.inr (10, 0), .inl a, .inl z, .inl l, .inl (nI j)] [] (setN (setK s G) F) := by
      refine loopD (cT F) (fun j hj ih ha => ?_) (fun ha => ?_)
      · by_cases hm : F (29 + 17 * j) = a ∧ F (29 + 17 * j + 1) = z
        · have ha2 : anyS F a z (j + 1) = true := by
            show (_ || decide _) = true
            rw [decide_eq_true hm, Bool.or_true]
          rw [if_pos (anyS_s ha2 (cT F) (by omega))] at e0
          obtain ⟨hm1, hm2⟩ := hm
          clear ih
          refine hX 1000 24 _ _ _ ?_
          repeat' (first | (intro hc) | (refine And.intro ?_ ?_) | (exact absurd nI_0 ‹cmpF 0 (nI 0) 0›) | (exact absurd ‹cmpT 0 (nI 1) 0› nI1_ne) | (exact absurd nI_0 ‹cmpT 1 (nI 0) 0›) | (exact absurd ‹cmpF 1 (nI 1) 0› nI1_ne) | (show wp _ _ _ _ _ _ _ _ _ _ _ _; conv => whnf) | (simp (disch := omega) only [nI_add, nI_mul, setN_now, setN_put, nI_cl, Nat.add_zero]) | (refine hcall _ _ _ _ ?_; first | (refine r_ofSite (by omega) ?_) | fail))
          all_goals first
            | exact doneS_n h e0 (by decide)
            | ((try clear hX hcall); (try clear h); simp (disch := omega) only [cmpT, cmpF, bI_eq0, bI_ne0, Classical.not_not, nI_toI, setN_now, nI_cl, alen20, Int32.toInt_zero, hw.s1, hw.t1, hw.r1, nI_add, nI_mul, takeL, setL, setN_put] at *; omega)
            | ((try clear hX hcall); (try clear h); simp (disch := omega) only [cmpT, cmpF, bI_eq0, bI_ne0, Classical.not_not, nI_toI, setN_now, nI_cl, alen20, Int32.toInt_zero, hw.s1, hw.t1, hw.r1, nI_add, nI_mul, takeL, setL, setN_put] at *; exfalso; first | contradiction | omega)
        · have ha2 : anyS F a z (j + 1) = false := by
            show (_ || decide _) = false
            rw [ha, decide_eq_false hm]
            rfl
          replace ih := ih ha2
          clear h
          refine hX 1000 24 _ _ _ ?_
          repeat' (first | (intro hc) | (refine And.intro ?_ ?_) | (exact absurd nI_0 ‹cmpF 0 (nI 0) 0›) | (exact absurd ‹cmpT 0 (nI 1) 0› nI1_ne) | (exact absurd nI_0 ‹cmpT 1 (nI 0) 0›) | (exact absurd ‹cmpF 1 (nI 1) 0› nI1_ne) | (show wp _ _ _ _ _ _ _ _ _ _ _ _; conv => whnf) | (simp (disch := omega) only [nI_add, nI_mul, setN_now, setN_put, nI_cl, Nat.add_zero]) | (refine hcall _ _ _ _ ?_; first | (refine r_ofSite (by omega) ?_) | fail))
          all_goals (clear e0; (try clear hX hcall); (try clear h); simp (disch := omega) only [cmpT, cmpF, bI_eq0, bI_ne0, Classical.not_not, nI_toI, setN_now, nI_cl, alen20, Int32.toInt_zero, hw.s1, hw.t1, hw.r1, nI_add, nI_mul, takeL, setL, setN_put] at *)
          all_goals first
            | exact ih
            | omega
            | (exfalso; first | contradiction | omega | exact hm ⟨by assumption, by assumption⟩)
      · rw [if_neg (by rw [ha]; decide)] at e0
        refine hX 1000 24 _ _ _ ?_
        repeat' (first | (intro hc) | (refine And.intro ?_ ?_) | (exact absurd nI_0 ‹cmpF 0 (nI 0) 0›) | (exact absurd ‹cmpT 0 (nI 1) 0› nI1_ne) | (exact absurd nI_0 ‹cmpT 1 (nI 0) 0›) | (exact absurd ‹cmpF 1 (nI 1) 0› nI1_ne) | (show wp _ _ _ _ _ _ _ _ _ _ _ _; conv => whnf) | (rw [setN_now]) | (rw [hw.t1]) | (simp (disch := omega) only [nI_add, nI_mul, setN_now, setN_put, nI_cl, Nat.add_zero]) | (refine hcall _ _ _ _ ?_; first | (refine r_siteAt ?_) | (refine r_records hn hs ?_) | fail))
        all_goals (try ((try clear hX hcall); (try clear h); simp (disch := omega) only [cmpT, cmpF, bI_eq0, bI_ne0, Classical.not_not, nI_toI, setN_now, nI_cl, alen20, Int32.toInt_zero, hw.s1, hw.t1, hw.r1, nI_add, nI_mul, takeL, setL, setN_put] at *; (try simp (disch := omega) only [nI_inj, nI_sub] at *); omega))
        · have hq : F 2 = nI 8 := ‹cmpF 1 (F 2) (nI 8)›
          rw [hw.t1, nI_inj (by omega) (by omega)] at hq
          rw [if_pos hq] at e0
          exact doneS_n h e0 (by decide)
        · have hq : ¬ F 2 = nI 8 := ‹cmpT 1 (F 2) (nI 8)›
          rw [hw.t1, nI_inj (by omega) (by omega)] at hq
          rw [if_neg hq] at e0
          simp only [takeL, setL, pushW]
          have hX98 : ∀ P, P = F → X 98 [.inr (10, 0), .inl a, .inl z, .inl l, .inl (nI (29 + 17 * cT F)), .inl (nI 0)] [] (setN (setK (putV s 10 0 3 (nI (recN n))) (recG G F n)) P) := by
            intro P hP
            rw [← zeK_0 (F := F) (b := 29 + 17 * cT F)] at hP
            subst hP
            refine loopN (P := fun k => X 98 [.inr (10, 0), .inl a, .inl z, .inl l, .inl (nI (29 + 17 * cT F)), .inl (nI k)] [] (setN (setK (putV s 10 0 3 (nI (recN n))) (recG G F n)) (zeK F (29 + 17 * cT F) k))) 17 (fun k hk ih => ?_) ?_ 0 (by omega)
            · clear h
              refine hX 1000 98 _ _ _ ?_
              repeat' (first | (intro hc) | (refine And.intro ?_ ?_) | (exact absurd nI_0 ‹cmpF 0 (nI 0) 0›) | (exact absurd ‹cmpT 0 (nI 1) 0› nI1_ne) | (exact absurd nI_0 ‹cmpT 1 (nI 0) 0›) | (exact absurd ‹cmpF 1 (nI 1) 0› nI1_ne) | (show wp _ _ _ _ _ _ _ _ _ _ _ _; conv => whnf))
              all_goals (clear hX hcall)
              all_goals (simp (disch := omega) only [cmpT, cmpF, nI_toI, setN_now, nI_cl, alen20, alen21, nI_add, nI_mul, takeL, setL, setN_put] at *)
              all_goals first
                | omega
                | (rw [zeK_s]; exact ih)
            · have e3 : zeK F (29 + 17 * cT F) 17 2 = nI (cT F) := by unfold zeK; rw [if_neg (by omega), hw.t1]
              refine hX 1000 98 _ _ _ ?_
              repeat' (first | (intro hc) | (refine And.intro ?_ ?_) | (exact absurd nI_0 ‹cmpF 0 (nI 0) 0›) | (exact absurd ‹cmpT 0 (nI 1) 0› nI1_ne) | (exact absurd nI_0 ‹cmpT 1 (nI 0) 0›) | (exact absurd ‹cmpF 1 (nI 1) 0› nI1_ne) | (show wp _ _ _ _ _ _ _ _ _ _ _ _; conv => whnf))
              all_goals (try (clear h; (try clear hX hcall); (try clear h); simp (disch := omega) only [cmpT, cmpF, bI_eq0, bI_ne0, Classical.not_not, nI_toI, setN_now, nI_cl, alen20, Int32.toInt_zero, hw.s1, hw.t1, hw.r1, nI_add, nI_mul, takeL, setL, setN_put] at *; omega))
              simp (disch := omega) only [nI_add, nI_cl, setN_put, setN_now, Nat.add_zero]
              refine recS_go (doneS_p h e0 (by rw [nI_toI (by omega)]; omega)) ?_ ?_
              · simp (disch := omega) only [putF_at, putF_ne, e3, nI_add, nI_sub, Nat.add_sub_cancel]
              · funext i
                simp (disch := omega) only [putF_ne, e3, hw.t1]
                simp only [putF, zeK]
                (repeat' split) <;> first | rfl | omega | (exfalso; omega) | (congr 1; omega)
          exact hX98 F rfl
    simp only [takeL, setL]
    exact loop 0 (by omega) rfl
  · have e : siteF F a z l = (-2, F) := by
      unfold siteF
      rw [if_pos hb]
    intro call hcall X hX; refine hX 1000 0 _ _ _ ?_
    repeat' (first | (intro hc) | (refine And.intro ?_ ?_) | (exact absurd nI_0 ‹cmpF 0 (nI 0) 0›) | (exact absurd ‹cmpT 0 (nI 1) 0› nI1_ne) | (exact absurd nI_0 ‹cmpT 1 (nI 0) 0›) | (exact absurd ‹cmpF 1 (nI 1) 0› nI1_ne) | (show wp _ _ _ _ _ _ _ _ _ _ _ _; conv => whnf) | (simp (disch := omega) only [nI_add, nI_mul, setN_now, setN_put, nI_cl, Nat.add_zero]) | (refine hcall _ _ _ _ ?_; first | (refine r_isBlock ?_) | (refine r_isIn ?_) | fail))
    all_goals first
      | exact doneS_n h e (by decide)
      | ((try clear hX hcall); (try clear h); simp (disch := omega) only [cmpT, cmpF, bI_eq0, bI_ne0, Classical.not_not, nI_toI, setN_now, nI_cl, alen20, Int32.toInt_zero, hw.s1, hw.t1, hw.r1, nI_add, nI_mul, takeL, setL, setN_put] at *; exfalso; first | contradiction | omega | (exact hb ⟨by assumption, by assumption, by assumption⟩) | (exact hb ⟨by assumption, by omega, by omega⟩))
end REF12

theorem i_vc : Claimed_1_1 ∧ Claimed_1_2 := sorry
