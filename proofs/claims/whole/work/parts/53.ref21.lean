/-! THE REFERENCE: copiesOf, site, endingNext, total -/
def copP (F : Fm) (r : Nat) (v : Int32) : Nat → Bool := fun p => decide (F (mA r p) = v)
def copN (F : Fm) (v : Int32) : Nat → Nat
  | 0 => 0
  | r + 1 => copN F v r + cntB (copP F r v) (cM F r)
def siteA (F : Fm) (v w : Int32) : Int32 := if ¬ iN v (cT F) then -1 else if ¬ iN w 8 then -2 else if w.toInt < 5 then F (29 + 17 * nn v + nn w) else if w.toInt = 5 then nI (homeF F (F (29 + 17 * nn v)) (F (29 + 17 * nn v + 1))) else if w.toInt = 6 then bI (upF F (nn v)) else nI (copN F v (cR F))
def firN (p : Nat → Bool) : Nat → Nat → Option Nat
  | 0, _ => none
  | n + 1, k => if p k = true then some k else firN p n (k + 1)
def ahdP (F : Fm) (m : Nat) : Nat → Bool := fun k => decide (aheadF F k m)
def nxtP (F : Fm) (v : Int32) : Nat → Bool := fun k => decide ((F 0).toInt < (F (29 + 17 * k + 4)).toInt ∧ nI (cntB (ahdP F k) (cT F)) = v)
def nextA (F : Fm) (v : Int32) : Int32 := if v.toInt < 0 then -2 else optI (firN (nxtP F v) (cT F) 0) (-5)
section REF21
variable {L : Nat} {xs : Nat → Int32} {f i k r q c j n B b w m : Nat} {x y v a z l name flow place : Int32} {s : St} {F G F' : Fm} {Q : Option MV → St → Prop}
set_option maxHeartbeats 4000000 in
set_option maxRecDepth 100000 in
theorem r_copiesOf (hw : WF F B) (h : Q (some (.inl (nI (copN F v (cR F))))) (setN s F)) : wpM L xs codT retT (f + 3) m_X10_copiesOf [.inr (10, 0), .inl v] (setN s F) Q := by
  have r2 := hw.r2
  intro call hcall X hX; refine hX 1000 0 _ _ _ ?_
  repeat' (first | (intro hc) | (refine And.intro ?_ ?_) | (exact absurd nI_0 ‹cmpF 0 (nI 0) 0›) | (exact absurd ‹cmpT 0 (nI 1) 0› nI1_ne) | (exact absurd nI_0 ‹cmpT 1 (nI 0) 0›) | (exact absurd ‹cmpF 1 (nI 1) 0› nI1_ne) | (show wp _ _ _ _ _ _ _ _ _ _ _ _; conv => whnf))
  have loop : ∀ j, j ≤ cR F → X 4 [.inr (10, 0), .inl v, .inl (nI (copN F v j)), .inl (nI j)] [] (setN s F) := by
    refine loopD (cR F) (fun j hj ih => ?_) ?_
    · clear h
      have wr := hw.router hj
      have wr1 := wr.1
      have wr5 := wr.2.1
      have ih2 : X 4 [.inr (10, 0), .inl v, .inl (nI (copN F v j + cntB (copP F j v) (cM F j))), .inl (nI (j + 1))] [] (setN s F) := ih
      clear ih
      refine hX 1000 4 _ _ _ ?_
      repeat' (first | (intro hc) | (refine And.intro ?_ ?_) | (exact absurd nI_0 ‹cmpF 0 (nI 0) 0›) | (exact absurd ‹cmpT 0 (nI 1) 0› nI1_ne) | (exact absurd nI_0 ‹cmpT 1 (nI 0) 0›) | (exact absurd ‹cmpF 1 (nI 1) 0› nI1_ne) | (show wp _ _ _ _ _ _ _ _ _ _ _ _; conv => whnf))
      all_goals (try ((try clear hX hcall); (try clear h); simp (disch := omega) only [cmpT, cmpF, bI_eq0, bI_ne0, Classical.not_not, nI_toI, setN_now, nI_cl, alen20, Int32.toInt_zero, hw.s1, hw.t1, hw.r1, nI_add, nI_mul, takeL, setL, setN_put] at *; omega))
      have lp : ∀ k, k ≤ cM F j → X 17 [.inr (10, 0), .inl v, .inl (nI (copN F v j + cntB (copP F j v) k)), .inl (nI j), .inl (nI k)] [] (setN s F) := by
        refine loopD (cM F j) (fun k hk ih => ?_) ?_
        · clear ih2
          have mk := mA_eq j k
          by_cases hm : F (mA j k) = v
          · rw [cntB_1 (p := copP F j v) (n := k) (decide_eq_true hm)] at ih
            refine hX 1000 17 _ _ _ ?_
            repeat' (first | (intro hc) | (refine And.intro ?_ ?_) | (exact absurd nI_0 ‹cmpF 0 (nI 0) 0›) | (exact absurd ‹cmpT 0 (nI 1) 0› nI1_ne) | (exact absurd nI_0 ‹cmpT 1 (nI 0) 0›) | (exact absurd ‹cmpF 1 (nI 1) 0› nI1_ne) | (show wp _ _ _ _ _ _ _ _ _ _ _ _; conv => whnf) | (rw [wr1]) | (simp (disch := omega) only [nI_add, nI_mul, setN_now, setN_put, nI_cl, Nat.add_zero]) | (refine hcall _ _ _ _ ?_; first | (refine r_mapsOf (by omega) ?_) | (refine r_ofMap (by omega) ?_) | fail))
            all_goals ((try clear hX hcall); (try clear h); (try simp (disch := omega) only [cmpT, cmpF, bI_eq0, bI_ne0, Classical.not_not, nI_toI, nI_cl, nI_inj, nI_add, nI_mul, nI_subI, takeL, setL, Int32.toInt_zero, Nat.add_zero, setN_now, alen20, (hw.router hj).1] at *))
            all_goals first
              | exact ih
              | omega
              | (exfalso; first | contradiction | omega)
          · rw [cntB_0 (p := copP F j v) (n := k) (fun q => hm (of_decide_eq_true q))] at ih
            refine hX 1000 17 _ _ _ ?_
            repeat' (first | (intro hc) | (refine And.intro ?_ ?_) | (exact absurd nI_0 ‹cmpF 0 (nI 0) 0›) | (exact absurd ‹cmpT 0 (nI 1) 0› nI1_ne) | (exact absurd nI_0 ‹cmpT 1 (nI 0) 0›) | (exact absurd ‹cmpF 1 (nI 1) 0› nI1_ne) | (show wp _ _ _ _ _ _ _ _ _ _ _ _; conv => whnf) | (rw [wr1]) | (simp (disch := omega) only [nI_add, nI_mul, setN_now, setN_put, nI_cl, Nat.add_zero]) | (refine hcall _ _ _ _ ?_; first | (refine r_mapsOf (by omega) ?_) | (refine r_ofMap (by omega) ?_) | fail))
            all_goals ((try clear hX hcall); (try clear h); (try simp (disch := omega) only [cmpT, cmpF, bI_eq0, bI_ne0, Classical.not_not, nI_toI, nI_cl, nI_inj, nI_add, nI_mul, nI_subI, takeL, setL, Int32.toInt_zero, Nat.add_zero, setN_now, alen20, (hw.router hj).1] at *))
            all_goals first
              | exact ih
              | omega
              | (exfalso; first | contradiction | omega)
        · refine hX 1000 17 _ _ _ ?_
          repeat' (first | (intro hc) | (refine And.intro ?_ ?_) | (exact absurd nI_0 ‹cmpF 0 (nI 0) 0›) | (exact absurd ‹cmpT 0 (nI 1) 0› nI1_ne) | (exact absurd nI_0 ‹cmpT 1 (nI 0) 0›) | (exact absurd ‹cmpF 1 (nI 1) 0› nI1_ne) | (show wp _ _ _ _ _ _ _ _ _ _ _ _; conv => whnf) | (rw [wr1]) | (simp (disch := omega) only [nI_add, nI_mul, setN_now, setN_put, nI_cl, Nat.add_zero]) | (refine hcall _ _ _ _ ?_; first | (refine r_mapsOf (by omega) ?_) | fail))
          all_goals ((try clear hX hcall); (try clear h); (try simp (disch := omega) only [cmpT, cmpF, bI_eq0, bI_ne0, Classical.not_not, nI_toI, nI_cl, nI_inj, nI_add, nI_mul, nI_subI, takeL, setL, Int32.toInt_zero, Nat.add_zero, setN_now, alen20, (hw.router hj).1] at *))
          all_goals first
            | exact ih2
            | omega
      simp only [takeL, setL]
      exact lp 0 (by omega)
    · refine hX 1000 4 _ _ _ ?_
      repeat' (first | (intro hc) | (refine And.intro ?_ ?_) | (exact absurd nI_0 ‹cmpF 0 (nI 0) 0›) | (exact absurd ‹cmpT 0 (nI 1) 0› nI1_ne) | (exact absurd nI_0 ‹cmpT 1 (nI 0) 0›) | (exact absurd ‹cmpF 1 (nI 1) 0› nI1_ne) | (show wp _ _ _ _ _ _ _ _ _ _ _ _; conv => whnf))
      all_goals first
        | exact h
        | ((try clear hX hcall); (try clear h); simp (disch := omega) only [cmpT, cmpF, bI_eq0, bI_ne0, Classical.not_not, nI_toI, setN_now, nI_cl, alen20, Int32.toInt_zero, hw.s1, hw.t1, hw.r1, nI_add, nI_mul, takeL, setL, setN_put] at *; omega)
  simp only [takeL, setL]
  exact loop 0 (by omega)
set_option maxHeartbeats 4000000 in
set_option maxRecDepth 100000 in
theorem r_site (hw : WF F B) (h : Q (some (.inl (siteA F v a))) (setN s F)) : wpM L xs codT retT (f + 6) m_X10_site [.inr (10, 0), .inl v, .inl a] (setN s F) Q := by
  have t2 := hw.t2
  by_cases hv : iN v (cT F)
  · obtain ⟨k, hp, hpl⟩ := iN_nn hv (by omega)
    subst hp
    have en : nn (nI k) = k := nI_cl (by omega)
    by_cases hb : iN a 8
    · obtain ⟨j, hq, hql⟩ := iN_nn hb (by omega)
      subst hq
      have ej : nn (nI j) = j := nI_cl (by omega)
      have e : siteA F (nI k) (nI j) = if (nI j).toInt < 5 then F (29 + 17 * k + j) else if (nI j).toInt = 5 then nI (homeF F (F (29 + 17 * k)) (F (29 + 17 * k + 1))) else if (nI j).toInt = 6 then bI (upF F k) else nI (copN F (nI k) (cR F)) := by unfold siteA; rw [if_neg (fun q => q hv), if_neg (fun q => q hb), en, ej]
      rw [e, nI_toI (by omega)] at h
      have hj : j = 0 ∨ j = 1 ∨ j = 2 ∨ j = 3 ∨ j = 4 ∨ j = 5 ∨ j = 6 ∨ j = 7 := by omega
      rcases hj with hj | hj | hj | hj | hj | hj | hj | hj <;> subst hj <;> (first | rw [if_pos (by omega)] at h | rw [if_neg (by omega), if_pos (by omega)] at h | rw [if_neg (by omega), if_neg (by omega), if_pos (by omega)] at h | rw [if_neg (by omega), if_neg (by omega), if_neg (by omega)] at h)
      all_goals
        intro call hcall X hX; refine hX 1000 0 _ _ _ ?_
        repeat' (first | (intro hc) | (refine And.intro ?_ ?_) | (exact absurd nI_0 ‹cmpF 0 (nI 0) 0›) | (exact absurd ‹cmpT 0 (nI 1) 0› nI1_ne) | (exact absurd nI_0 ‹cmpT 1 (nI 0) 0›) | (exact absurd ‹cmpF 1 (nI 1) 0› nI1_ne) | (show wp _ _ _ _ _ _ _ _ _ _ _ _; conv => whnf) | (simp (disch := omega) only [nI_add, nI_mul, setN_now, setN_put, nI_cl, Nat.add_zero]) | (refine hcall _ _ _ _ ?_; first | (refine r_isSite hw.t1 (by omega) ?_) | (refine r_ofSite (by omega) ?_) | (refine r_homeOfSite hw (by omega) ?_) | (refine r_isUp (by omega) ?_) | (refine r_copiesOf hw ?_) | fail))
        all_goals first
          | exact h
          | ((try clear hX hcall); (try clear h); simp (disch := omega) only [cmpT, cmpF, bI_eq0, bI_ne0, Classical.not_not, nI_toI, setN_now, nI_cl, alen20, Int32.toInt_zero, hw.s1, hw.t1, hw.r1, nI_add, nI_mul, takeL, setL, setN_put] at *; (try simp (disch := omega) only [ofN, nI_inj] at *); omega)
          | ((try clear hX hcall); (try clear h); simp (disch := omega) only [cmpT, cmpF, bI_eq0, bI_ne0, Classical.not_not, nI_toI, setN_now, nI_cl, alen20, Int32.toInt_zero, hw.s1, hw.t1, hw.r1, nI_add, nI_mul, takeL, setL, setN_put] at *; (try simp (disch := omega) only [ofN, nI_inj] at *); contradiction)
          | (refine bI_1 h ?_; exact bI_ne0.mp (by assumption))
          | (refine bI_0 h ?_; exact bI_eq0.mp (by assumption))
    · have e : siteA F (nI k) a = -2 := by unfold siteA; rw [if_neg (fun q => q hv), if_pos hb]
      rw [e] at h
      intro call hcall X hX; refine hX 1000 0 _ _ _ ?_
      repeat' (first | (intro hc) | (refine And.intro ?_ ?_) | (exact absurd nI_0 ‹cmpF 0 (nI 0) 0›) | (exact absurd ‹cmpT 0 (nI 1) 0› nI1_ne) | (exact absurd nI_0 ‹cmpT 1 (nI 0) 0›) | (exact absurd ‹cmpF 1 (nI 1) 0› nI1_ne) | (show wp _ _ _ _ _ _ _ _ _ _ _ _; conv => whnf) | (simp (disch := omega) only [nI_add, nI_mul, setN_now, setN_put, nI_cl, Nat.add_zero]) | (refine hcall _ _ _ _ ?_; first | (refine r_isSite hw.t1 (by omega) ?_) | (refine r_ofSite (by omega) ?_) | (refine r_homeOfSite hw (by omega) ?_) | (refine r_isUp (by omega) ?_) | (refine r_copiesOf hw ?_) | fail))
      all_goals first
        | exact h
        | ((try clear hX hcall); (try clear h); simp (disch := omega) only [cmpT, cmpF, bI_eq0, bI_ne0, Classical.not_not, nI_toI, setN_now, nI_cl, alen20, Int32.toInt_zero, hw.s1, hw.t1, hw.r1, nI_add, nI_mul, takeL, setL, setN_put] at *; omega)
        | exact absurd (iN_of (show a = Int32.ofNat 0 by assumption) (by decide) (by decide)) hb
        | exact absurd (iN_of (show a = Int32.ofNat 1 by assumption) (by decide) (by decide)) hb
        | exact absurd (iN_of (show a = Int32.ofNat 2 by assumption) (by decide) (by decide)) hb
        | exact absurd (iN_of (show a = Int32.ofNat 3 by assumption) (by decide) (by decide)) hb
        | exact absurd (iN_of (show a = Int32.ofNat 4 by assumption) (by decide) (by decide)) hb
        | exact absurd (iN_of (show a = Int32.ofNat 5 by assumption) (by decide) (by decide)) hb
        | exact absurd (iN_of (show a = Int32.ofNat 6 by assumption) (by decide) (by decide)) hb
        | exact absurd (iN_of (show a = Int32.ofNat 7 by assumption) (by decide) (by decide)) hb
  · have e : siteA F v a = -1 := by unfold siteA; rw [if_pos hv]
    rw [e] at h
    intro call hcall X hX; refine hX 1000 0 _ _ _ ?_
    repeat' (first | (intro hc) | (refine And.intro ?_ ?_) | (exact absurd nI_0 ‹cmpF 0 (nI 0) 0›) | (exact absurd ‹cmpT 0 (nI 1) 0› nI1_ne) | (exact absurd nI_0 ‹cmpT 1 (nI 0) 0›) | (exact absurd ‹cmpF 1 (nI 1) 0› nI1_ne) | (show wp _ _ _ _ _ _ _ _ _ _ _ _; conv => whnf) | (simp (disch := omega) only [nI_add, nI_mul, setN_now, setN_put, nI_cl, Nat.add_zero]) | (refine hcall _ _ _ _ ?_; first | (refine r_isSite hw.t1 (by omega) ?_) | fail))
    all_goals first
      | exact h
      | ((try clear hX hcall); (try clear h); simp (disch := omega) only [cmpT, cmpF, bI_eq0, bI_ne0, Classical.not_not, nI_toI, setN_now, nI_cl, alen20, Int32.toInt_zero, hw.s1, hw.t1, hw.r1, nI_add, nI_mul, takeL, setL, setN_put] at *; omega)
theorem firN_1 {p : Nat → Bool} (h : p k = true) : firN p (n + 1) k = some k := if_pos h
theorem firN_0 {p : Nat → Bool} (h : ¬ p k = true) : firN p (n + 1) k = firN p n (k + 1) := if_neg h
set_option maxHeartbeats 4000000 in
set_option maxRecDepth 100000 in
theorem r_endingNext (hw : WF F B) (h : Q (some (.inl (nextA F v))) (setN s F)) : wpM L xs codT retT (f + 5) m_X10_endingNext [.inr (10, 0), .inl v] (setN s F) Q := by
  have t2 := hw.t2
  by_cases hv : v.toInt < 0
  · have e : nextA F v = -2 := if_pos hv
    rw [e] at h
    intro call hcall X hX; refine hX 1000 0 _ _ _ ?_
    repeat' (first | (intro hc) | (refine And.intro ?_ ?_) | (exact absurd nI_0 ‹cmpF 0 (nI 0) 0›) | (exact absurd ‹cmpT 0 (nI 1) 0› nI1_ne) | (exact absurd nI_0 ‹cmpT 1 (nI 0) 0›) | (exact absurd ‹cmpF 1 (nI 1) 0› nI1_ne) | (show wp _ _ _ _ _ _ _ _ _ _ _ _; conv => whnf))
    all_goals first
      | exact h
      | ((try clear hX hcall); (try clear h); simp (disch := omega) only [cmpT, cmpF, bI_eq0, bI_ne0, Classical.not_not, nI_toI, setN_now, nI_cl, alen20, Int32.toInt_zero, hw.s1, hw.t1, hw.r1, nI_add, nI_mul, takeL, setL, setN_put] at *; omega)
  · have e : nextA F v = optI (firN (nxtP F v) (cT F) 0) (-5) := if_neg hv
    rw [e] at h
    intro call hcall X hX; refine hX 1000 0 _ _ _ ?_
    repeat' (first | (intro hc) | (refine And.intro ?_ ?_) | (exact absurd nI_0 ‹cmpF 0 (nI 0) 0›) | (exact absurd ‹cmpT 0 (nI 1) 0› nI1_ne) | (exact absurd nI_0 ‹cmpT 1 (nI 0) 0›) | (exact absurd ‹cmpF 1 (nI 1) 0› nI1_ne) | (show wp _ _ _ _ _ _ _ _ _ _ _ _; conv => whnf))
    all_goals (try ((try clear hX hcall); (try clear h); simp (disch := omega) only [cmpT, cmpF, bI_eq0, bI_ne0, Classical.not_not, nI_toI, setN_now, nI_cl, alen20, Int32.toInt_zero, hw.s1, hw.t1, hw.r1, nI_add, nI_mul, takeL, setL, setN_put] at *; omega))
    have loop : ∀ j k, k + j = cT F → Q (some (.inl (optI (firN (nxtP F v) j k) (-5)))) (setN s F) → X 9 [.inr (10, 0), .inl v, .inl (nI k)] [] (setN s F) := by
      clear h
      intro j
      induction j with
      | zero =>
        intro k hk h
        refine hX 1000 9 _ _ _ ?_
        repeat' (first | (intro hc) | (refine And.intro ?_ ?_) | (exact absurd nI_0 ‹cmpF 0 (nI 0) 0›) | (exact absurd ‹cmpT 0 (nI 1) 0› nI1_ne) | (exact absurd nI_0 ‹cmpT 1 (nI 0) 0›) | (exact absurd ‹cmpF 1 (nI 1) 0› nI1_ne) | (show wp _ _ _ _ _ _ _ _ _ _ _ _; conv => whnf))
        all_goals first
          | exact h
          | ((try clear hX hcall); (try clear h); simp (disch := omega) only [cmpT, cmpF, bI_eq0, bI_ne0, Classical.not_not, nI_toI, setN_now, nI_cl, alen20, Int32.toInt_zero, hw.s1, hw.t1, hw.r1, nI_add, nI_mul, takeL, setL, setN_put] at *; omega)
      | succ j ih =>
        intro k hk h
        have ih := ih (k + 1) (by omega)
        refine hX 1000 9 _ _ _ ?_
        repeat' (first | (intro hc) | (refine And.intro ?_ ?_) | (exact absurd nI_0 ‹cmpF 0 (nI 0) 0›) | (exact absurd ‹cmpT 0 (nI 1) 0› nI1_ne) | (exact absurd nI_0 ‹cmpT 1 (nI 0) 0›) | (exact absurd ‹cmpF 1 (nI 1) 0› nI1_ne) | (show wp _ _ _ _ _ _ _ _ _ _ _ _; conv => whnf))
        all_goals (try ((try clear hX hcall); (try clear h); simp (disch := omega) only [cmpT, cmpF, bI_eq0, bI_ne0, Classical.not_not, nI_toI, setN_now, nI_cl, alen20, Int32.toInt_zero, hw.s1, hw.t1, hw.r1, nI_add, nI_mul, takeL, setL, setN_put] at *; omega))
        simp only [takeL, setL]
        have lp : ∀ m, m ≤ cT F → X 24 [.inr (10, 0), .inl v, .inl (nI k), .inl (nI (cntB (ahdP F k) m)), .inl (nI m)] [] (setN s F) := by
          refine loopD (cT F) (fun m hm ih2 => ?_) ?_
          · clear ih h
            by_cases ha : aheadF F m k
            · rw [cntB_1 (p := ahdP F k) (n := m) (decide_eq_true ha)] at ih2
              refine hX 1000 24 _ _ _ ?_
              repeat' (first | (intro hc) | (refine And.intro ?_ ?_) | (exact absurd nI_0 ‹cmpF 0 (nI 0) 0›) | (exact absurd ‹cmpT 0 (nI 1) 0› nI1_ne) | (exact absurd nI_0 ‹cmpT 1 (nI 0) 0›) | (exact absurd ‹cmpF 1 (nI 1) 0› nI1_ne) | (show wp _ _ _ _ _ _ _ _ _ _ _ _; conv => whnf) | (simp (disch := omega) only [nI_add, nI_mul, setN_now, setN_put, nI_cl, Nat.add_zero]) | (refine hcall _ _ _ _ ?_; first | (refine r_isAhead (by omega) (by omega) ?_) | fail))
              all_goals first
                | exact ih2
                | exact absurd ha (bI_eq0.mp (by assumption))
                | (clear ha; (try clear hX hcall); (try clear h); simp (disch := omega) only [cmpT, cmpF, bI_eq0, bI_ne0, Classical.not_not, nI_toI, setN_now, nI_cl, alen20, Int32.toInt_zero, hw.s1, hw.t1, hw.r1, nI_add, nI_mul, takeL, setL, setN_put] at *; omega)
                | ((try clear hX hcall); (try clear h); simp (disch := omega) only [cmpT, cmpF, bI_eq0, bI_ne0, Classical.not_not, nI_toI, setN_now, nI_cl, alen20, Int32.toInt_zero, hw.s1, hw.t1, hw.r1, nI_add, nI_mul, takeL, setL, setN_put] at *; first | exact ih2 | contradiction)
            · rw [cntB_0 (p := ahdP F k) (n := m) (fun q => ha (of_decide_eq_true q))] at ih2
              refine hX 1000 24 _ _ _ ?_
              repeat' (first | (intro hc) | (refine And.intro ?_ ?_) | (exact absurd nI_0 ‹cmpF 0 (nI 0) 0›) | (exact absurd ‹cmpT 0 (nI 1) 0› nI1_ne) | (exact absurd nI_0 ‹cmpT 1 (nI 0) 0›) | (exact absurd ‹cmpF 1 (nI 1) 0› nI1_ne) | (show wp _ _ _ _ _ _ _ _ _ _ _ _; conv => whnf) | (simp (disch := omega) only [nI_add, nI_mul, setN_now, setN_put, nI_cl, Nat.add_zero]) | (refine hcall _ _ _ _ ?_; first | (refine r_isAhead (by omega) (by omega) ?_) | fail))
              all_goals first
                | exact ih2
                | exact absurd (bI_ne0.mp (by assumption)) ha
                | (clear ha; (try clear hX hcall); (try clear h); simp (disch := omega) only [cmpT, cmpF, bI_eq0, bI_ne0, Classical.not_not, nI_toI, setN_now, nI_cl, alen20, Int32.toInt_zero, hw.s1, hw.t1, hw.r1, nI_add, nI_mul, takeL, setL, setN_put] at *; omega)
                | ((try clear hX hcall); (try clear h); simp (disch := omega) only [cmpT, cmpF, bI_eq0, bI_ne0, Classical.not_not, nI_toI, setN_now, nI_cl, alen20, Int32.toInt_zero, hw.s1, hw.t1, hw.r1, nI_add, nI_mul, takeL, setL, setN_put] at *; first | exact ih2 | contradiction)
          · by_cases hn : nxtP F v k = true
            · rw [firN_1 hn] at h
              obtain ⟨h1, h2⟩ := of_decide_eq_true hn
              clear ih
              refine hX 1000 24 _ _ _ ?_
              repeat' (first | (intro hc) | (refine And.intro ?_ ?_) | (exact absurd nI_0 ‹cmpF 0 (nI 0) 0›) | (exact absurd ‹cmpT 0 (nI 1) 0› nI1_ne) | (exact absurd nI_0 ‹cmpT 1 (nI 0) 0›) | (exact absurd ‹cmpF 1 (nI 1) 0› nI1_ne) | (show wp _ _ _ _ _ _ _ _ _ _ _ _; conv => whnf) | (simp (disch := omega) only [nI_add, nI_mul, setN_now, setN_put, nI_cl, Nat.add_zero]) | (refine hcall _ _ _ _ ?_; first | (refine r_isRegistered (by omega) ?_) | fail))
              all_goals first
                | exact h
                | ((try clear hX hcall); (try clear h); simp (disch := omega) only [cmpT, cmpF, bI_eq0, bI_ne0, Classical.not_not, nI_toI, setN_now, nI_cl, alen20, Int32.toInt_zero, hw.s1, hw.t1, hw.r1, nI_add, nI_mul, takeL, setL, setN_put] at *; omega)
                | ((try clear hX hcall); (try clear h); simp (disch := omega) only [cmpT, cmpF, bI_eq0, bI_ne0, Classical.not_not, nI_toI, setN_now, nI_cl, alen20, Int32.toInt_zero, hw.s1, hw.t1, hw.r1, nI_add, nI_mul, takeL, setL, setN_put] at *; exfalso; first | contradiction | omega)
            · rw [firN_0 hn] at h
              have ih := ih h
              have hn2 : (F 0).toInt < (F (29 + 17 * k + 4)).toInt → ¬ nI (cntB (ahdP F k) (cT F)) = v := fun a b => hn (decide_eq_true ⟨a, b⟩)
              refine hX 1000 24 _ _ _ ?_
              repeat' (first | (intro hc) | (refine And.intro ?_ ?_) | (exact absurd nI_0 ‹cmpF 0 (nI 0) 0›) | (exact absurd ‹cmpT 0 (nI 1) 0› nI1_ne) | (exact absurd nI_0 ‹cmpT 1 (nI 0) 0›) | (exact absurd ‹cmpF 1 (nI 1) 0› nI1_ne) | (show wp _ _ _ _ _ _ _ _ _ _ _ _; conv => whnf) | (simp (disch := omega) only [nI_add, nI_mul, setN_now, setN_put, nI_cl, Nat.add_zero]) | (refine hcall _ _ _ _ ?_; first | (refine r_isRegistered (by omega) ?_) | fail))
              all_goals first
                | ((try clear hX hcall); (try clear h); simp (disch := omega) only [cmpT, cmpF, bI_eq0, bI_ne0, Classical.not_not, nI_toI, setN_now, nI_cl, alen20, Int32.toInt_zero, hw.s1, hw.t1, hw.r1, nI_add, nI_mul, takeL, setL, setN_put] at *; omega)
                | (clear h; simp (disch := omega) only [cmpT, cmpF, bI_eq0, bI_ne0, Classical.not_not, takeL, setL, nI_add] at *; first | exact ih | exact absurd (by assumption) (hn2 (by assumption)))
        exact lp 0 (by omega)
    simp only [takeL, setL]
    exact loop (cT F) 0 (by omega) h
end REF21
