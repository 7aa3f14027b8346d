/-! THE REFERENCE: calls that change something, on -/
def zeK (F : Fm) (b k : Nat) : Fm := fun i => if b ≤ i ∧ i < b + k then nI 0 else F i
section REF11
variable {L : Nat} {xs : Nat → Int32} {f i k r p q c j n B b : Nat} {x y v a z w l name flow place : Int32} {s : St} {F G F' : Fm} {Q : Option MV → St → Prop}
theorem zeK_0 : zeK F b 0 = F := by
  funext i
  simp only [zeK]
  rw [if_neg (by omega)]
theorem zeK_s : putF (zeK F b k) (b + k) (nI 0) = zeK F b (k + 1) := by
  funext i
  simp only [putF, zeK]
  (repeat' split) <;> first | rfl | omega | (exfalso; omega) | (congr 1; omega)
set_option maxHeartbeats 4000000 in
set_option maxRecDepth 100000 in
theorem r_setMapLife (hw : WF F B) (hn : n ≤ 5) (hs : s.1 10 0 3 = nI n) (h : Q (some (.inl (lifeF F l).1)) (doneS s G F n (lifeF F l))) : wpM L xs codT retT (f + 3) m_X10_setMapLife [.inr (10, 0), .inl l] (setN (setK s G) F) Q := by
  by_cases hl : 1 ≤ l.toInt ∧ l.toInt ≤ 100
  · have e : lifeF F l = (F 4, putF F 4 l) := by unfold lifeF; rw [if_neg (fun q => q hl)]
    have h4 : 0 ≤ (F 4).toInt := by have := hw.l; omega
    intro call hcall X hX; refine hX 1000 0 _ _ _ ?_
    repeat' (first | (intro hc) | (refine And.intro ?_ ?_) | (exact absurd nI_0 ‹cmpF 0 (nI 0) 0›) | (exact absurd ‹cmpT 0 (nI 1) 0› nI1_ne) | (exact absurd nI_0 ‹cmpT 1 (nI 0) 0›) | (exact absurd ‹cmpF 1 (nI 1) 0› nI1_ne) | (show wp _ _ _ _ _ _ _ _ _ _ _ _; conv => whnf) | (simp (disch := omega) only [nI_add, nI_mul, setN_now, setN_put, nI_cl, Nat.add_zero]) | (refine hcall _ _ _ _ ?_; first | (refine r_isIn ?_) | (refine r_records hn hs ?_) | fail))
    all_goals (try ((try clear hX hcall); (try clear h); simp (disch := omega) only [cmpT, cmpF, bI_eq0, bI_ne0, Classical.not_not, nI_toI, setN_now, nI_cl, alen20, Int32.toInt_zero, hw.s1, hw.t1, hw.r1, nI_add, nI_mul, takeL, setL, setN_put] at *; omega))
    exact recS_go (doneS_p h e h4) rfl rfl
  · have e : lifeF F l = (-2, F) := by unfold lifeF; rw [if_pos hl]
    intro call hcall X hX; refine hX 1000 0 _ _ _ ?_
    repeat' (first | (intro hc) | (refine And.intro ?_ ?_) | (exact absurd nI_0 ‹cmpF 0 (nI 0) 0›) | (exact absurd ‹cmpT 0 (nI 1) 0› nI1_ne) | (exact absurd nI_0 ‹cmpT 1 (nI 0) 0›) | (exact absurd ‹cmpF 1 (nI 1) 0› nI1_ne) | (show wp _ _ _ _ _ _ _ _ _ _ _ _; conv => whnf) | (simp (disch := omega) only [nI_add, nI_mul, setN_now, setN_put, nI_cl, Nat.add_zero]) | (refine hcall _ _ _ _ ?_; first | (refine r_isIn ?_) | (refine r_records hn hs ?_) | fail))
    all_goals first
      | exact doneS_n h e (by decide)
      | ((try clear hX hcall); (try clear h); simp (disch := omega) only [cmpT, cmpF, bI_eq0, bI_ne0, Classical.not_not, nI_toI, setN_now, nI_cl, alen20, Int32.toInt_zero, hw.s1, hw.t1, hw.r1, nI_add, nI_mul, takeL, setL, setN_put] at *; omega)
set_option maxHeartbeats 4000000 in
set_option maxRecDepth 100000 in
theorem r_pass (hw : WF F B) (hn : n ≤ 5) (hs : s.1 10 0 3 = nI n) (h : Q (some (.inl (passF F v).1)) (doneS s G F n (passF F v))) : wpM L xs codT retT (f + 3) m_X10_pass [.inr (10, 0), .inl v] (setN (setK s G) F) Q := by
  have hh := hw.h
  by_cases hl : 1 ≤ v.toInt ∧ v.toInt ≤ 99
  · have hs1 : (F 0 + v).toInt = (F 0).toInt + v.toInt := by
      rw [Int32.toInt_add]
      apply Int.bmod_eq_of_le <;> omega
    by_cases h3 : 9999 < (F 0 + v).toInt
    · have e : passF F v = (-3, F) := by unfold passF; rw [if_neg (fun q => q hl), if_pos h3]
      intro call hcall X hX; refine hX 1000 0 _ _ _ ?_
      repeat' (first | (intro hc) | (refine And.intro ?_ ?_) | (exact absurd nI_0 ‹cmpF 0 (nI 0) 0›) | (exact absurd ‹cmpT 0 (nI 1) 0› nI1_ne) | (exact absurd nI_0 ‹cmpT 1 (nI 0) 0›) | (exact absurd ‹cmpF 1 (nI 1) 0› nI1_ne) | (show wp _ _ _ _ _ _ _ _ _ _ _ _; conv => whnf) | (simp (disch := omega) only [nI_add, nI_mul, setN_now, setN_put, nI_cl, Nat.add_zero]) | (refine hcall _ _ _ _ ?_; first | (refine r_isIn ?_) | (refine r_records hn hs ?_) | fail))
      all_goals first
        | exact doneS_n h e (by decide)
        | ((try clear hX hcall); (try clear h); simp (disch := omega) only [cmpT, cmpF, bI_eq0, bI_ne0, Classical.not_not, nI_toI, setN_now, nI_cl, alen20, Int32.toInt_zero, hw.s1, hw.t1, hw.r1, nI_add, nI_mul, takeL, setL, setN_put] at *; omega)
    · have e : passF F v = (F 0 + v, putF F 0 (F 0 + v)) := by unfold passF; rw [if_neg (fun q => q hl), if_neg h3]
      intro call hcall X hX; refine hX 1000 0 _ _ _ ?_
      repeat' (first | (intro hc) | (refine And.intro ?_ ?_) | (exact absurd nI_0 ‹cmpF 0 (nI 0) 0›) | (exact absurd ‹cmpT 0 (nI 1) 0› nI1_ne) | (exact absurd nI_0 ‹cmpT 1 (nI 0) 0›) | (exact absurd ‹cmpF 1 (nI 1) 0› nI1_ne) | (show wp _ _ _ _ _ _ _ _ _ _ _ _; conv => whnf) | (simp (disch := omega) only [nI_add, nI_mul, setN_now, setN_put, nI_cl, Nat.add_zero]) | (refine hcall _ _ _ _ ?_; first | (refine r_isIn ?_) | (refine r_records hn hs ?_) | fail))
      all_goals (try ((try clear hX hcall); (try clear h); simp (disch := omega) only [cmpT, cmpF, bI_eq0, bI_ne0, Classical.not_not, nI_toI, setN_now, nI_cl, alen20, Int32.toInt_zero, hw.s1, hw.t1, hw.r1, nI_add, nI_mul, takeL, setL, setN_put] at *; omega))
      exact recS_go (doneS_p h e (by omega)) rfl rfl
  · have e : passF F v = (-2, F) := by unfold passF; rw [if_pos hl]
    intro call hcall X hX; refine hX 1000 0 _ _ _ ?_
    repeat' (first | (intro hc) | (refine And.intro ?_ ?_) | (exact absurd nI_0 ‹cmpF 0 (nI 0) 0›) | (exact absurd ‹cmpT 0 (nI 1) 0› nI1_ne) | (exact absurd nI_0 ‹cmpT 1 (nI 0) 0›) | (exact absurd ‹cmpF 1 (nI 1) 0› nI1_ne) | (show wp _ _ _ _ _ _ _ _ _ _ _ _; conv => whnf) | (simp (disch := omega) only [nI_add, nI_mul, setN_now, setN_put, nI_cl, Nat.add_zero]) | (refine hcall _ _ _ _ ?_; first | (refine r_isIn ?_) | (refine r_records hn hs ?_) | fail))
    all_goals first
      | exact doneS_n h e (by decide)
      | ((try clear hX hcall); (try clear h); simp (disch := omega) only [cmpT, cmpF, bI_eq0, bI_ne0, Classical.not_not, nI_toI, setN_now, nI_cl, alen20, Int32.toInt_zero, hw.s1, hw.t1, hw.r1, nI_add, nI_mul, takeL, setL, setN_put] at *; omega)
set_option maxHeartbeats 4000000 in
set_option maxRecDepth 100000 in
theorem r_forget (hw : WF F B) (hn : n ≤ 5) (hs : s.1 10 0 3 = nI n) (h : Q (some (.inl (forgetF F v).1)) (doneS s G F n (forgetF F v))) : wpM L xs codT retT (f + 3) m_X10_forget [.inr (10, 0), .inl v] (setN (setK s G) F) Q := by
  have r2 := hw.r2
  by_cases hv : iN v (cR F)
  · obtain ⟨r, hp, hpl⟩ := iN_nn hv (by omega)
    subst hp
    have en : nn (nI r) = r := nI_cl (by omega)
    have wr := hw.router hpl
    have wr1 := wr.1
    have wr5 := wr.2.1
    have e : forgetF F (nI r) = (nI (cM F r), putF F (165 + 6 * r) (nI 0)) := by unfold forgetF; rw [if_neg (fun q => q hv), en, ← wr1]
    intro call hcall X hX; refine hX 1000 0 _ _ _ ?_
    repeat' (first | (intro hc) | (refine And.intro ?_ ?_) | (exact absurd nI_0 ‹cmpF 0 (nI 0) 0›) | (exact absurd ‹cmpT 0 (nI 1) 0› nI1_ne) | (exact absurd nI_0 ‹cmpT 1 (nI 0) 0›) | (exact absurd ‹cmpF 1 (nI 1) 0› nI1_ne) | (show wp _ _ _ _ _ _ _ _ _ _ _ _; conv => whnf) | (simp (disch := omega) only [nI_add, nI_mul, setN_now, setN_put, nI_cl, Nat.add_zero]) | (refine hcall _ _ _ _ ?_; first | (refine r_isRouter hw.r1 (by omega) ?_) | (refine r_routerAt ?_) | (refine r_mapsOf (by omega) ?_) | (refine r_records hn hs ?_) | fail))
    all_goals (try ((try clear hX hcall); (try clear h); simp (disch := omega) only [cmpT, cmpF, bI_eq0, bI_ne0, Classical.not_not, nI_toI, setN_now, nI_cl, alen20, Int32.toInt_zero, hw.s1, hw.t1, hw.r1, nI_add, nI_mul, takeL, setL, setN_put] at *; omega))
    exact recS_go (doneS_p h e (by rw [nI_toI (by omega)]; omega)) wr1 rfl
  · have e : forgetF F v = (-1, F) := by unfold forgetF; rw [if_pos hv]
    intro call hcall X hX; refine hX 1000 0 _ _ _ ?_
    repeat' (first | (intro hc) | (refine And.intro ?_ ?_) | (exact absurd nI_0 ‹cmpF 0 (nI 0) 0›) | (exact absurd ‹cmpT 0 (nI 1) 0› nI1_ne) | (exact absurd nI_0 ‹cmpT 1 (nI 0) 0›) | (exact absurd ‹cmpF 1 (nI 1) 0› nI1_ne) | (show wp _ _ _ _ _ _ _ _ _ _ _ _; conv => whnf) | (simp (disch := omega) only [nI_add, nI_mul, setN_now, setN_put, nI_cl, Nat.add_zero]) | (refine hcall _ _ _ _ ?_; first | (refine r_isRouter hw.r1 (by omega) ?_) | fail))
    all_goals first
      | exact doneS_n h e (by decide)
      | ((try clear hX hcall); (try clear h); simp (disch := omega) only [cmpT, cmpF, bI_eq0, bI_ne0, Classical.not_not, nI_toI, setN_now, nI_cl, alen20, Int32.toInt_zero, hw.s1, hw.t1, hw.r1, nI_add, nI_mul, takeL, setL, setN_put] at *; omega)
set_option maxHeartbeats 4000000 in
set_option maxRecDepth 100000 in
theorem r_addRouter (hw : WF F B) (hn : n ≤ 5) (hs : s.1 10 0 3 = nI n) (h : Q (some (.inl (routerF F).1)) (doneS s G F n (routerF F))) : wpM L xs codT retT (f + 3) m_X10_addRouter [.inr (10, 0)] (setN (setK s G) F) Q := by
  have r2 := hw.r2
  by_cases h4 : cR F = 4
  · have e : routerF F = (-4, F) := by unfold routerF; rw [if_pos h4]
    intro call hcall X hX; refine hX 1000 0 _ _ _ ?_
    repeat' (first | (intro hc) | (refine And.intro ?_ ?_) | (exact absurd nI_0 ‹cmpF 0 (nI 0) 0›) | (exact absurd ‹cmpT 0 (nI 1) 0› nI1_ne) | (exact absurd nI_0 ‹cmpT 1 (nI 0) 0›) | (exact absurd ‹cmpF 1 (nI 1) 0› nI1_ne) | (show wp _ _ _ _ _ _ _ _ _ _ _ _; conv => whnf) | (simp (disch := omega) only [nI_add, nI_mul, setN_now, setN_put, nI_cl, Nat.add_zero]) | (refine hcall _ _ _ _ ?_; first | (refine r_routerAt ?_) | (refine r_records hn hs ?_) | fail))
    all_goals first
      | exact doneS_n h e (by decide)
      | (clear h e; (try clear hX hcall); (try clear h); simp (disch := omega) only [cmpT, cmpF, bI_eq0, bI_ne0, Classical.not_not, nI_toI, setN_now, nI_cl, alen20, Int32.toInt_zero, hw.s1, hw.t1, hw.r1, nI_add, nI_mul, takeL, setL, setN_put] at *; (try simp (disch := omega) only [nI_inj] at *); omega)
  · have e : routerF F = (nI (cR F), fun i => if 165 + 6 * cR F ≤ i ∧ i < 165 + 6 * cR F + 6 then nI 0 else if i = 3 then F 3 + nI 1 else F i) := by unfold routerF; rw [if_neg h4]
    intro call hcall X hX; refine hX 1000 0 _ _ _ ?_
    repeat' (first | (intro hc) | (refine And.intro ?_ ?_) | (exact absurd nI_0 ‹cmpF 0 (nI 0) 0›) | (exact absurd ‹cmpT 0 (nI 1) 0› nI1_ne) | (exact absurd nI_0 ‹cmpT 1 (nI 0) 0›) | (exact absurd ‹cmpF 1 (nI 1) 0› nI1_ne) | (show wp _ _ _ _ _ _ _ _ _ _ _ _; conv => whnf) | (simp (disch := omega) only [nI_add, nI_mul, setN_now, setN_put, nI_cl, Nat.add_zero]) | (refine hcall _ _ _ _ ?_; first | (refine r_routerAt ?_) | (refine r_records hn hs ?_) | fail))
    all_goals (try (clear e; (try clear hX hcall); (try clear h); simp (disch := omega) only [cmpT, cmpF, bI_eq0, bI_ne0, Classical.not_not, nI_toI, setN_now, nI_cl, alen20, Int32.toInt_zero, hw.s1, hw.t1, hw.r1, nI_add, nI_mul, takeL, setL, setN_put] at *; (try simp (disch := omega) only [nI_inj] at *); omega))
    simp only [takeL, setL, pushW]
    rw [← zeK_0 (F := F) (b := 165 + 6 * cR F)]
    refine loopN (P := fun k => X 19 [.inr (10, 0), .inl (nI k)] [] (setN (setK (putV s 10 0 3 (nI (recN n))) (recG G (zeK F (165 + 6 * cR F) 0) n)) (zeK F (165 + 6 * cR F) k))) 6 (fun k hk ih => ?_) ?_ 0 (by omega)
    · clear h
      have e3 : zeK F (165 + 6 * cR F) k 3 = nI (cR F) := by unfold zeK; rw [if_neg (by omega), hw.r1]
      refine hX 1000 19 _ _ _ ?_
      repeat' (first | (intro hc) | (refine And.intro ?_ ?_) | (exact absurd nI_0 ‹cmpF 0 (nI 0) 0›) | (exact absurd ‹cmpT 0 (nI 1) 0› nI1_ne) | (exact absurd nI_0 ‹cmpT 1 (nI 0) 0›) | (exact absurd ‹cmpF 1 (nI 1) 0› nI1_ne) | (show wp _ _ _ _ _ _ _ _ _ _ _ _; conv => whnf) | (rw [setN_now]) | (rw [e3]) | (simp (disch := omega) only [nI_add, nI_mul, setN_now, setN_put, nI_cl, Nat.add_zero]) | (refine hcall _ _ _ _ ?_; first | (refine r_routerAt ?_) | fail))
      all_goals (clear hX hcall)
      all_goals (simp (disch := omega) only [cmpT, cmpF, nI_toI, setN_now, nI_cl, alen20, alen21, nI_add, nI_mul, takeL, setL, setN_put, e3] at *)
      all_goals first
        | omega
        | (rw [zeK_s]; exact ih)
    · have e3 : zeK F (165 + 6 * cR F) 6 3 = nI (cR F) := by unfold zeK; rw [if_neg (by omega), hw.r1]
      refine hX 1000 19 _ _ _ ?_
      repeat' (first | (intro hc) | (refine And.intro ?_ ?_) | (exact absurd nI_0 ‹cmpF 0 (nI 0) 0›) | (exact absurd ‹cmpT 0 (nI 1) 0› nI1_ne) | (exact absurd nI_0 ‹cmpT 1 (nI 0) 0›) | (exact absurd ‹cmpF 1 (nI 1) 0› nI1_ne) | (show wp _ _ _ _ _ _ _ _ _ _ _ _; conv => whnf) | (simp (disch := omega) only [nI_add, nI_mul, setN_now, setN_put, nI_cl, Nat.add_zero]) | (refine hcall _ _ _ _ ?_; first | (refine r_routerAt ?_) | fail))
      all_goals (try (clear h; (try clear hX hcall); (try clear h); simp (disch := omega) only [cmpT, cmpF, bI_eq0, bI_ne0, Classical.not_not, nI_toI, setN_now, nI_cl, alen20, Int32.toInt_zero, hw.s1, hw.t1, hw.r1, nI_add, nI_mul, takeL, setL, setN_put] at *; omega))
      simp only [zeK_0]
      refine recS_go (doneS_p h e (by rw [nI_toI (by omega)]; omega)) ?_ ?_
      · simp (disch := omega) only [setN_put, setN_now, putF_at, e3, nI_add, nI_sub, Nat.add_sub_cancel, nI_cl]
      · funext i
        simp (disch := omega) only [putF, e3, nI_cl, zeK, hw.r1]
        (repeat' split) <;> first | rfl | omega | (exfalso; omega) | (congr 1; omega)
end REF11

theorem i_vc : Claimed_1_1 ∧ Claimed_1_2 := sorry
