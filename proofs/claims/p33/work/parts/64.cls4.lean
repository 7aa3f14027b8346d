/-! THE CLASS: answers, ends, counts -/
def szO (F : Fm) (o : Option Nat) : Int32 := match o with
  | none => nI 257
  | some b => F (29 + 17 * b + 1)
section CLS4
variable {L : Nat} {xs : Nat → Int32} {f i k r q c j n B b w m sd : Nat} {x y v a z l lo v0 v1 name flow place : Int32} {s : St} {F G F' u : Fm} {Q : Option MV → St → Prop}
theorem c_siteUp (hw : WF F B) (hR : RepW s w F) (hk : k < cT F) (h : Q (some (.inl (bI (upF F k)))) s) : wpM L xs codT retT (f + 2) m_X6_isUp [.inr (6, 8 * w + k), .inl (s.1 8 w 6)] s Q := by
  obtain ⟨-, -, -, -, r4, rc⟩ := hR.site hk
  refine c_isUp r4 rc (hw.flag hk) ?_
  rw [hR.h1]
  exact h
theorem c_siteReg (hR : RepW s w F) (hk : k < cT F) (h : Q (some (.inl (bI ((F 0).toInt < (F (29 + 17 * k + 4)).toInt)))) s) : wpM L xs codT retT (f + 1) m_X6_isRegistered [.inr (6, 8 * w + k), .inl (s.1 8 w 6)] s Q := by
  obtain ⟨-, -, -, -, r4, -⟩ := hR.site hk
  refine c_isRegistered r4 ?_
  rw [hR.h1]
  exact h
theorem c_siteHas (hR : RepW s w F) (hk : k < cT F) (hn : iN name 256) (h : Q (some (.inl (bI (hasF F k name)))) s) : wpM L xs codT retT (f + 2) m_X1_has [.inr (1, 80 + (8 * w + k)), .inl name] s Q := by
  obtain ⟨r0, r1, -⟩ := hR.site hk
  exact c_has hn r0 r1 h
theorem betB_z (hw : WF F B) (hk : k < cT F) {o : Option Nat} : betB F k o = true ↔ (F (29 + 17 * k + 1)).toInt < (szO F o).toInt := by
  cases o with
  | none =>
    obtain ⟨⟨a, z, -, e, h1, h2⟩, -⟩ := hw.site hk
    rw [e, nI_toI (by omega)]
    have : (szO F none).toInt = 257 := nI_toI (n := 257) (by decide)
    rw [this]
    exact ⟨fun _ => by omega, fun _ => rfl⟩
  | some b => exact ⟨fun h => of_decide_eq_true h, fun h => decide_eq_true h⟩
set_option maxHeartbeats 4000000 in
set_option maxRecDepth 100000 in
theorem c_answerFor (hw : WF F B) (hR : RepW s w F) (hn : iN name 256) (h : Q (some (.inl (optI (ansF F name) (-1)))) s) : wpM L xs codT retT (f + 3) m_X8_answerFor [.inr (8, w), .inl name] s Q := by
  have t2 := hw.t2
  have e2 : s.1 8 w 4 = nI (cT F) := hR.t1.trans hw.t1
  have hb1 := homeF_lt hw (a := name) (z := nI 1)
  intro call hcall X hX; refine hX 1000 0 _ _ _ ?_
  repeat' (first | (intro hc) | (refine And.intro ?_ ?_) | (exact absurd nI_0 ‹cmpF 0 (nI 0) 0›) | (exact absurd ‹cmpT 0 (nI 1) 0› nI1_ne) | (exact absurd nI_0 ‹cmpT 1 (nI 0) 0›) | (exact absurd ‹cmpF 1 (nI 1) 0› nI1_ne) | (show wp _ _ _ _ _ _ _ _ _ _ _ _; conv => whnf) | (simp (disch := omega) only [nI_add, nI_mul, setN_now, setN_put, nI_cl, Nat.add_zero]) | (refine hcall _ _ _ _ ?_; first | (refine c_homeOf hw hR ?_) | fail))
  simp only [takeL, setL]
  have loop : ∀ j, j ≤ cT F → X 17 [.inr (8, w), .inl name, .inl (nI (homeF F name (nI 1))), .inl (optI (ansN F name j) (-1)), .inl (szO F (ansN F name j)), .inl (nI j)] [] s := by
    refine loopD (cT F) (fun j hj ih => ?_) ?_
    · clear h
      obtain ⟨r0, r1, -⟩ := hR.site hj
      have hb2 := homeF_lt hw (a := F (29 + 17 * j)) (z := F (29 + 17 * j + 1))
      have hbz := betB_z hw hj (o := ansN F name j)
      by_cases hc : (upF F j ∧ hasF F j name ∧ homeF F (F (29 + 17 * j)) (F (29 + 17 * j + 1)) = homeF F name (nI 1)) ∧ betB F j (ansN F name j) = true
      · have e : ansN F name (j + 1) = some j := by rw [ansN, if_pos hc]
        rw [e] at ih
        have ih2 : X 17 [.inr (8, w), .inl name, .inl (nI (homeF F name (nI 1))), .inl (nI j), .inl (s.1 1 (80 + (8 * w + j)) 1), .inl (nI (j + 1))] [] s := by rw [r1]; exact ih
        clear ih e
        obtain ⟨⟨g1, g2, g3⟩, g4⟩ := hc
        have g4 := hbz.mp g4
        rw [← r1] at g4
        have g3' : homeF F (s.1 1 (80 + (8 * w + j)) 0) (s.1 1 (80 + (8 * w + j)) 1) = homeF F name (nI 1) := by rw [r0, r1]; exact g3
        clear hbz
        generalize ansN F name j = o at *
        refine hX 1000 17 _ _ _ ?_
        repeat' (first | (intro hc) | (refine And.intro ?_ ?_) | (exact absurd nI_0 ‹cmpF 0 (nI 0) 0›) | (exact absurd ‹cmpT 0 (nI 1) 0› nI1_ne) | (exact absurd nI_0 ‹cmpT 1 (nI 0) 0›) | (exact absurd ‹cmpF 1 (nI 1) 0› nI1_ne) | (show wp _ _ _ _ _ _ _ _ _ _ _ _; conv => whnf) | (simp (disch := omega) only [nI_cl]) | (simp (disch := omega) only [nI_add, nI_mul, setN_now, setN_put, nI_cl, Nat.add_zero]) | (refine hcall _ _ _ _ ?_; first | (refine c_siteHas hR hj hn ?_) | (refine c_siteUp hw hR hj ?_) | (refine c_homeOf hw hR ?_) | fail))
        all_goals first
          | (simp only [takeL, setL, nI_add]; exact ih2)
          | (exfalso; exact bF g1 (by assumption))
          | (exfalso; exact bF g2 (by assumption))
          | (exfalso; exact (by assumption : cmpT 1 (nI _) (nI _)) (by rw [g3']))
          | (clear ih2 g1 g2 g3 g3'; (try clear hX hcall); (try clear h); (try simp (disch := omega) only [cmpT, cmpF, bI_eq0, bI_ne0, Classical.not_not, nI_toI, nI_cl, nI_inj, nI_add, nI_mul, nI_subI, takeL, setL, Int32.toInt_zero, Nat.add_zero, setN_now, alen20, alen11, alen12, alen13, alen14, alen15, alen16, alen17, alen18, alen19, (id e2)] at *); omega)
      · have e : ansN F name (j + 1) = ansN F name j := by rw [ansN, if_neg hc]
        rw [e] at ih
        have hc2 : upF F j → hasF F j name → nI (homeF F (s.1 1 (80 + (8 * w + j)) 0) (s.1 1 (80 + (8 * w + j)) 1)) = nI (homeF F name (nI 1)) → ¬ (s.1 1 (80 + (8 * w + j)) 1).toInt < (szO F (ansN F name j)).toInt := by
          intro g1 g2 g3 g4
          rw [r0, r1] at g3
          rw [r1] at g4
          exact hc ⟨⟨g1, g2, (nI_inj (by omega) (by omega)).mp g3⟩, hbz.mpr g4⟩
        clear hbz hc e
        generalize ansN F name j = o at *
        refine hX 1000 17 _ _ _ ?_
        repeat' (first | (intro hc) | (refine And.intro ?_ ?_) | (exact absurd nI_0 ‹cmpF 0 (nI 0) 0›) | (exact absurd ‹cmpT 0 (nI 1) 0› nI1_ne) | (exact absurd nI_0 ‹cmpT 1 (nI 0) 0›) | (exact absurd ‹cmpF 1 (nI 1) 0› nI1_ne) | (show wp _ _ _ _ _ _ _ _ _ _ _ _; conv => whnf) | (simp (disch := omega) only [nI_cl]) | (simp (disch := omega) only [nI_add, nI_mul, setN_now, setN_put, nI_cl, Nat.add_zero]) | (refine hcall _ _ _ _ ?_; first | (refine c_siteHas hR hj hn ?_) | (refine c_siteUp hw hR hj ?_) | (refine c_homeOf hw hR ?_) | fail))
        all_goals first
          | (simp only [takeL, setL, nI_add]; exact ih)
          | (exfalso; exact hc2 (bI_ne0.mp (by assumption)) (bI_ne0.mp (by assumption)) (by assumption) (by assumption))
          | (clear ih hc2; (try clear hX hcall); (try clear h); (try simp (disch := omega) only [cmpT, cmpF, bI_eq0, bI_ne0, Classical.not_not, nI_toI, nI_cl, nI_inj, nI_add, nI_mul, nI_subI, takeL, setL, Int32.toInt_zero, Nat.add_zero, setN_now, alen20, alen11, alen12, alen13, alen14, alen15, alen16, alen17, alen18, alen19, (id e2)] at *); omega)
    · refine hX 1000 17 _ _ _ ?_
      repeat' (first | (intro hc) | (refine And.intro ?_ ?_) | (exact absurd nI_0 ‹cmpF 0 (nI 0) 0›) | (exact absurd ‹cmpT 0 (nI 1) 0› nI1_ne) | (exact absurd nI_0 ‹cmpT 1 (nI 0) 0›) | (exact absurd ‹cmpF 1 (nI 1) 0› nI1_ne) | (show wp _ _ _ _ _ _ _ _ _ _ _ _; conv => whnf))
      all_goals first
        | exact h
        | ((try clear hX hcall); (try clear h); (try simp (disch := omega) only [cmpT, cmpF, bI_eq0, bI_ne0, Classical.not_not, nI_toI, nI_cl, nI_inj, nI_add, nI_mul, nI_subI, takeL, setL, Int32.toInt_zero, Nat.add_zero, setN_now, alen20, alen11, alen12, alen13, alen14, alen15, alen16, alen17, alen18, alen19, (id e2)] at *); omega)
  exact loop 0 (by omega)
set_option maxHeartbeats 4000000 in
set_option maxRecDepth 100000 in
theorem c_endingAhead (hw : WF F B) (hR : RepW s w F) (hk : k < cT F) (h : Q (some (.inl (nI (cntB (ahdP F k) (cT F))))) s) : wpM L xs codT retT (f + 2) m_X8_sitesEndingAheadOf [.inr (8, w), .inl (nI k)] s Q := by
  have t2 := hw.t2
  have e2 : s.1 8 w 4 = nI (cT F) := hR.t1.trans hw.t1
  have hk2 := iN_k hk (by omega)
  obtain ⟨-, -, -, -, k4, -⟩ := hR.site hk
  intro call hcall X hX; refine hX 1000 0 _ _ _ ?_
  repeat' (first | (intro hc) | (refine And.intro ?_ ?_) | (exact absurd nI_0 ‹cmpF 0 (nI 0) 0›) | (exact absurd ‹cmpT 0 (nI 1) 0› nI1_ne) | (exact absurd nI_0 ‹cmpT 1 (nI 0) 0›) | (exact absurd ‹cmpF 1 (nI 1) 0› nI1_ne) | (show wp _ _ _ _ _ _ _ _ _ _ _ _; conv => whnf) | (simp (disch := omega) only [nI_cl]) | (simp (disch := omega) only [nI_add, nI_mul, setN_now, setN_put, nI_cl, Nat.add_zero]) | (refine hcall _ _ _ _ ?_; first | (refine c_isSite e2 t2 ?_) | fail))
  all_goals (try (exfalso; exact bF hk2 (by assumption)))
  all_goals (try (clear hk2; (try clear hX hcall); (try clear h); (try simp (disch := omega) only [cmpT, cmpF, bI_eq0, bI_ne0, Classical.not_not, nI_toI, nI_cl, nI_inj, nI_add, nI_mul, nI_subI, takeL, setL, Int32.toInt_zero, Nat.add_zero, Nat.zero_mul, Nat.zero_add, alen11, alen12, alen13, alen14, alen15, alen16, alen17, alen18, alen19] at *); omega))
  simp only [takeL, setL]
  have loop : ∀ j, j ≤ cT F → ∀ P : Nat → List MV → List MV → St → Prop, P = X → P 27 [.inr (8, w), .inl (nI k), .inl (s.1 6 (8 * w + k) 4), .inl (nI (cntB (ahdP F k) j)), .inl (nI j)] [] s := by
    refine loopD (cT F) (fun j hj ih => ?_) ?_
    · clear h
      intro P hP
      subst hP
      have ih := ih _ rfl
      obtain ⟨-, -, -, -, r4, -⟩ := hR.site hj
      by_cases ha : aheadF F j k
      · rw [cntB_1 (p := ahdP F k) (n := j) (decide_eq_true ha)] at ih
        obtain ⟨a1, a2⟩ := ha
        rw [← r4, ← k4] at a2
        refine hX 1000 27 _ _ _ ?_
        repeat' (first | (intro hc) | (refine And.intro ?_ ?_) | (exact absurd nI_0 ‹cmpF 0 (nI 0) 0›) | (exact absurd ‹cmpT 0 (nI 1) 0› nI1_ne) | (exact absurd nI_0 ‹cmpT 1 (nI 0) 0›) | (exact absurd ‹cmpF 1 (nI 1) 0› nI1_ne) | (show wp _ _ _ _ _ _ _ _ _ _ _ _; conv => whnf) | (simp (disch := omega) only [nI_cl]) | (simp (disch := omega) only [nI_add, nI_mul, setN_now, setN_put, nI_cl, Nat.add_zero]) | (refine hcall _ _ _ _ ?_; first | (refine c_siteReg hR hj ?_) | fail))
        all_goals (clear hX hcall; (try simp (disch := omega) only [cmpT, cmpF, nI_cl, nI_toI] at *))
        all_goals first
          | (simp only [takeL, setL, nI_add]; exact ih)
          | (exfalso; exact bF a1 (by assumption))
          | (exfalso; rcases a2 with a2 | a2 <;> first | omega | exact absurd a2.1 (by assumption))
          | (clear ih hk2; simp (disch := omega) only [(id e2), alen12, nI_toI] at *; first | omega | (rcases a2 with a2 | a2 <;> omega))
      · rw [cntB_0 (p := ahdP F k) (n := j) (fun q => ha (of_decide_eq_true q))] at ih
        have ha2 : (F 0).toInt < (F (29 + 17 * j + 4)).toInt → (s.1 6 (8 * w + j) 4).toInt < (s.1 6 (8 * w + k) 4).toInt → False := fun q1 q2 => ha ⟨q1, Or.inl (by rw [← r4, ← k4]; exact q2)⟩
        have ha3 : (F 0).toInt < (F (29 + 17 * j + 4)).toInt → s.1 6 (8 * w + j) 4 = s.1 6 (8 * w + k) 4 → j < k → False := fun q1 q2 q3 => ha ⟨q1, Or.inr ⟨by rw [← r4, ← k4]; exact q2, q3⟩⟩
        refine hX 1000 27 _ _ _ ?_
        repeat' (first | (intro hc) | (refine And.intro ?_ ?_) | (exact absurd nI_0 ‹cmpF 0 (nI 0) 0›) | (exact absurd ‹cmpT 0 (nI 1) 0› nI1_ne) | (exact absurd nI_0 ‹cmpT 1 (nI 0) 0›) | (exact absurd ‹cmpF 1 (nI 1) 0› nI1_ne) | (show wp _ _ _ _ _ _ _ _ _ _ _ _; conv => whnf) | (simp (disch := omega) only [nI_cl]) | (simp (disch := omega) only [nI_add, nI_mul, setN_now, setN_put, nI_cl, Nat.add_zero]) | (refine hcall _ _ _ _ ?_; first | (refine c_siteReg hR hj ?_) | fail))
        all_goals (clear hX hcall; (try simp (disch := omega) only [cmpT, cmpF, nI_cl, nI_toI] at *))
        all_goals first
          | (simp only [takeL, setL, nI_add]; exact ih)
          | (exfalso; exact ha2 (bI_ne0.mp (by assumption)) (by assumption))
          | (exfalso; refine ha3 (bI_ne0.mp (by assumption)) (by assumption) ?_; clear ih ha2 ha3; (try clear hX hcall); (try clear h); (try simp (disch := omega) only [cmpT, cmpF, bI_eq0, bI_ne0, Classical.not_not, nI_toI, nI_cl, nI_inj, nI_add, nI_mul, nI_subI, takeL, setL, Int32.toInt_zero, Nat.add_zero, Nat.zero_mul, Nat.zero_add, alen11, alen12, alen13, alen14, alen15, alen16, alen17, alen18, alen19] at *); omega)
          | (clear ih ha2 ha3 ha hk2; (try clear hX hcall); (try clear h); (try simp (disch := omega) only [cmpT, cmpF, bI_eq0, bI_ne0, Classical.not_not, nI_toI, nI_cl, nI_inj, nI_add, nI_mul, nI_subI, takeL, setL, Int32.toInt_zero, Nat.add_zero, setN_now, alen20, alen11, alen12, alen13, alen14, alen15, alen16, alen17, alen18, alen19, (id e2)] at *); omega)
    · intro P hP
      subst hP
      refine hX 1000 27 _ _ _ ?_
      repeat' (first | (intro hc) | (refine And.intro ?_ ?_) | (exact absurd nI_0 ‹cmpF 0 (nI 0) 0›) | (exact absurd ‹cmpT 0 (nI 1) 0› nI1_ne) | (exact absurd nI_0 ‹cmpT 1 (nI 0) 0›) | (exact absurd ‹cmpF 1 (nI 1) 0› nI1_ne) | (show wp _ _ _ _ _ _ _ _ _ _ _ _; conv => whnf))
      all_goals first
        | exact h
        | ((try clear hX hcall); (try clear h); (try simp (disch := omega) only [cmpT, cmpF, bI_eq0, bI_ne0, Classical.not_not, nI_toI, nI_cl, nI_inj, nI_add, nI_mul, nI_subI, takeL, setL, Int32.toInt_zero, Nat.add_zero, setN_now, alen20, alen11, alen12, alen13, alen14, alen15, alen16, alen17, alen18, alen19, (id e2)] at *); omega)
  exact loop 0 (by omega) X rfl
set_option maxHeartbeats 4000000 in
set_option maxRecDepth 100000 in
theorem c_siteEndingAt (hw : WF F B) (hR : RepW s w F) (h : Q (some (.inl (optI (firN (nxtP F v) (cT F) 0) (-1)))) s) : wpM L xs codT retT (f + 3) m_X8_siteEndingAt [.inr (8, w), .inl v] s Q := by
  have t2 := hw.t2
  have e2 : s.1 8 w 4 = nI (cT F) := hR.t1.trans hw.t1
  intro call hcall X hX; refine hX 1000 0 _ _ _ ?_
  repeat' (first | (intro hc) | (refine And.intro ?_ ?_) | (exact absurd nI_0 ‹cmpF 0 (nI 0) 0›) | (exact absurd ‹cmpT 0 (nI 1) 0› nI1_ne) | (exact absurd nI_0 ‹cmpT 1 (nI 0) 0›) | (exact absurd ‹cmpF 1 (nI 1) 0› nI1_ne) | (show wp _ _ _ _ _ _ _ _ _ _ _ _; conv => whnf))
  simp only [takeL, setL]
  have loop : ∀ j k, k + j = cT F → Q (some (.inl (optI (firN (nxtP F v) j k) (-1)))) s → X 2 [.inr (8, w), .inl v, .inl (nI k)] [] s := by
    clear h
    intro j
    induction j with
    | zero =>
      intro k hk h
      refine hX 1000 2 _ _ _ ?_
      repeat' (first | (intro hc) | (refine And.intro ?_ ?_) | (exact absurd nI_0 ‹cmpF 0 (nI 0) 0›) | (exact absurd ‹cmpT 0 (nI 1) 0› nI1_ne) | (exact absurd nI_0 ‹cmpT 1 (nI 0) 0›) | (exact absurd ‹cmpF 1 (nI 1) 0› nI1_ne) | (show wp _ _ _ _ _ _ _ _ _ _ _ _; conv => whnf))
      all_goals first
        | exact h
        | ((try clear hX hcall); (try clear h); (try simp (disch := omega) only [cmpT, cmpF, bI_eq0, bI_ne0, Classical.not_not, nI_toI, nI_cl, nI_inj, nI_add, nI_mul, nI_subI, takeL, setL, Int32.toInt_zero, Nat.add_zero, setN_now, alen20, alen11, alen12, alen13, alen14, alen15, alen16, alen17, alen18, alen19, (id e2)] at *); omega)
    | succ j ih =>
      intro k hk h
      have ih := ih (k + 1) (by omega)
      have hk2 : k < cT F := by omega
      by_cases hm : nxtP F v k = true
      · rw [firN_1 hm] at h
        obtain ⟨h1, h2⟩ := of_decide_eq_true hm
        clear ih
        refine hX 1000 2 _ _ _ ?_
        repeat' (first | (intro hc) | (refine And.intro ?_ ?_) | (exact absurd nI_0 ‹cmpF 0 (nI 0) 0›) | (exact absurd ‹cmpT 0 (nI 1) 0› nI1_ne) | (exact absurd nI_0 ‹cmpT 1 (nI 0) 0›) | (exact absurd ‹cmpF 1 (nI 1) 0› nI1_ne) | (show wp _ _ _ _ _ _ _ _ _ _ _ _; conv => whnf) | (simp (disch := omega) only [nI_cl]) | (simp (disch := omega) only [nI_add, nI_mul, setN_now, setN_put, nI_cl, Nat.add_zero]) | (refine hcall _ _ _ _ ?_; first | (refine c_siteReg hR hk2 ?_) | (refine c_endingAhead hw hR hk2 ?_) | fail))
        all_goals first
          | exact h
          | (exfalso; exact bF h1 (by assumption))
          | (exfalso; exact (by assumption : cmpT 1 (nI (cntB (ahdP F k) (cT F))) v) h2)
          | ((try clear hX hcall); (try clear h); (try simp (disch := omega) only [cmpT, cmpF, bI_eq0, bI_ne0, Classical.not_not, nI_toI, nI_cl, nI_inj, nI_add, nI_mul, nI_subI, takeL, setL, Int32.toInt_zero, Nat.add_zero, setN_now, alen20, alen11, alen12, alen13, alen14, alen15, alen16, alen17, alen18, alen19, (id e2)] at *); omega)
      · rw [firN_0 hm] at h
        have ih := ih h
        have hn2 : (F 0).toInt < (F (29 + 17 * k + 4)).toInt → ¬ nI (cntB (ahdP F k) (cT F)) = v := fun a b => hm (decide_eq_true ⟨a, b⟩)
        clear h
        refine hX 1000 2 _ _ _ ?_
        repeat' (first | (intro hc) | (refine And.intro ?_ ?_) | (exact absurd nI_0 ‹cmpF 0 (nI 0) 0›) | (exact absurd ‹cmpT 0 (nI 1) 0› nI1_ne) | (exact absurd nI_0 ‹cmpT 1 (nI 0) 0›) | (exact absurd ‹cmpF 1 (nI 1) 0› nI1_ne) | (show wp _ _ _ _ _ _ _ _ _ _ _ _; conv => whnf) | (simp (disch := omega) only [nI_cl]) | (simp (disch := omega) only [nI_add, nI_mul, setN_now, setN_put, nI_cl, Nat.add_zero]) | (refine hcall _ _ _ _ ?_; first | (refine c_siteReg hR hk2 ?_) | (refine c_endingAhead hw hR hk2 ?_) | fail))
        all_goals first
          | (simp only [takeL, setL, nI_add]; exact ih)
          | (exfalso; exact hn2 (bI_ne0.mp (by assumption)) (by assumption))
          | (clear ih hn2; (try clear hX hcall); (try clear h); (try simp (disch := omega) only [cmpT, cmpF, bI_eq0, bI_ne0, Classical.not_not, nI_toI, nI_cl, nI_inj, nI_add, nI_mul, nI_subI, takeL, setL, Int32.toInt_zero, Nat.add_zero, setN_now, alen20, alen11, alen12, alen13, alen14, alen15, alen16, alen17, alen18, alen19, (id e2)] at *); omega)
  exact loop (cT F) 0 (by omega) h
end CLS4
