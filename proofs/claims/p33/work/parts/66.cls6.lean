/-! THE CLASS: properties of servers and sites, totals -/
section CLS6
variable {L : Nat} {xs : Nat → Int32} {f i k r q c j n B b w m sd : Nat} {x y v a z l lo v0 v1 name flow place : Int32} {s : St} {F G F' u : Fm} {Q : Option MV → St → Prop} {P : Nat → Bool}
set_option maxHeartbeats 4000000 in
set_option maxRecDepth 100000 in
theorem c_childrenOf (hw : WF F B) (hR : RepW s w F) (hk : k < 1000) (h : Q (some (.inl (nI (cntB (childP F (nI k)) (cS F))))) s) : wpM L xs codT retT (f + 1) m_X8_childrenOf [.inr (8, w), .inl (nI k)] s Q := by
  have s2 := hw.s2
  have e1 : s.1 8 w 3 = nI (cS F) := hR.s1.trans hw.s1
  intro call hcall X hX; refine hX 1000 0 _ _ _ ?_
  repeat' (first | (intro hc) | (refine And.intro ?_ ?_) | (exact absurd nI_0 ‹cmpF 0 (nI 0) 0›) | (exact absurd ‹cmpT 0 (nI 1) 0› nI1_ne) | (exact absurd nI_0 ‹cmpT 1 (nI 0) 0›) | (exact absurd ‹cmpF 1 (nI 1) 0› nI1_ne) | (show wp _ _ _ _ _ _ _ _ _ _ _ _; conv => whnf))
  simp only [takeL, setL]
  have loop : ∀ j, j ≤ cS F → X 4 [.inr (8, w), .inl (nI k), .inl (nI (cntB (childP F (nI k)) j)), .inl (nI j)] [] s := by
    refine loopD (cS F) (fun j hj ih => ?_) ?_
    · clear h
      obtain ⟨r0, -, -⟩ := hR.server hj
      by_cases hm : childP F (nI k) j = true
      · rw [cntB_1 hm] at ih
        have hm2 : s.1 5 (8 * w + j) 1 = nI k := r0.trans (of_decide_eq_true hm).2
        clear hm
        refine hX 1000 4 _ _ _ ?_
        repeat' (first | (intro hc) | (refine And.intro ?_ ?_) | (exact absurd nI_0 ‹cmpF 0 (nI 0) 0›) | (exact absurd ‹cmpT 0 (nI 1) 0› nI1_ne) | (exact absurd nI_0 ‹cmpT 1 (nI 0) 0›) | (exact absurd ‹cmpF 1 (nI 1) 0› nI1_ne) | (show wp _ _ _ _ _ _ _ _ _ _ _ _; conv => whnf) | (simp (disch := omega) only [nI_cl]))
        all_goals (clear hX hcall; (try simp (disch := omega) only [cmpT, cmpF, nI_cl, nI_toI] at *))
        all_goals first
          | (simp only [takeL, setL, nI_add]; exact ih)
          | exact absurd hm2 (by assumption)
          | (clear ih; (try clear hX hcall); (try clear h); (try simp (disch := omega) only [cmpT, cmpF, bI_eq0, bI_ne0, Classical.not_not, nI_toI, nI_cl, nI_inj, nI_add, nI_mul, nI_subI, takeL, setL, Int32.toInt_zero, Nat.add_zero, setN_now, alen20, alen11, alen12, alen13, alen14, alen15, alen16, alen17, alen18, alen19, (id e1)] at *); omega)
      · rw [cntB_0 hm] at ih
        have hm2 : ¬ s.1 5 (8 * w + j) 1 = nI k := fun q => hm (decide_eq_true ⟨by
          by_cases h0 : j = 0
          · subst h0
            exfalso
            have ep : F (5 + 3 * 0) = -5 := (hw.server hj).2.1 rfl
            exact nI_n5 hk (q.symm.trans (r0.trans ep))
          · omega, r0.symm.trans q⟩)
        clear hm
        refine hX 1000 4 _ _ _ ?_
        repeat' (first | (intro hc) | (refine And.intro ?_ ?_) | (exact absurd nI_0 ‹cmpF 0 (nI 0) 0›) | (exact absurd ‹cmpT 0 (nI 1) 0› nI1_ne) | (exact absurd nI_0 ‹cmpT 1 (nI 0) 0›) | (exact absurd ‹cmpF 1 (nI 1) 0› nI1_ne) | (show wp _ _ _ _ _ _ _ _ _ _ _ _; conv => whnf) | (simp (disch := omega) only [nI_cl]))
        all_goals (clear hX hcall; (try simp (disch := omega) only [cmpT, cmpF, nI_cl, nI_toI] at *))
        all_goals first
          | (simp only [takeL, setL, nI_add]; exact ih)
          | (exfalso; contradiction)
          | (clear ih hm2; (try clear hX hcall); (try clear h); (try simp (disch := omega) only [cmpT, cmpF, bI_eq0, bI_ne0, Classical.not_not, nI_toI, nI_cl, nI_inj, nI_add, nI_mul, nI_subI, takeL, setL, Int32.toInt_zero, Nat.add_zero, setN_now, alen20, alen11, alen12, alen13, alen14, alen15, alen16, alen17, alen18, alen19, (id e1)] at *); omega)
    · refine hX 1000 4 _ _ _ ?_
      repeat' (first | (intro hc) | (refine And.intro ?_ ?_) | (exact absurd nI_0 ‹cmpF 0 (nI 0) 0›) | (exact absurd ‹cmpT 0 (nI 1) 0› nI1_ne) | (exact absurd nI_0 ‹cmpT 1 (nI 0) 0›) | (exact absurd ‹cmpF 1 (nI 1) 0› nI1_ne) | (show wp _ _ _ _ _ _ _ _ _ _ _ _; conv => whnf))
      all_goals first
        | exact h
        | ((try clear hX hcall); (try clear h); (try simp (disch := omega) only [cmpT, cmpF, bI_eq0, bI_ne0, Classical.not_not, nI_toI, nI_cl, nI_inj, nI_add, nI_mul, nI_subI, takeL, setL, Int32.toInt_zero, Nat.add_zero, setN_now, alen20, alen11, alen12, alen13, alen14, alen15, alen16, alen17, alen18, alen19, (id e1)] at *); omega)
  exact loop 0 (by omega)
set_option maxHeartbeats 4000000 in
set_option maxRecDepth 100000 in
theorem c_sitesAtHome (hw : WF F B) (hR : RepW s w F) (h : Q (some (.inl (nI (cntB (homeP F v) (cT F))))) s) : wpM L xs codT retT (f + 4) m_X8_sitesAtHome [.inr (8, w), .inl v] s Q := by
  have t2 := hw.t2
  have e2 : s.1 8 w 4 = nI (cT F) := hR.t1.trans hw.t1
  intro call hcall X hX; refine hX 1000 0 _ _ _ ?_
  repeat' (first | (intro hc) | (refine And.intro ?_ ?_) | (exact absurd nI_0 ‹cmpF 0 (nI 0) 0›) | (exact absurd ‹cmpT 0 (nI 1) 0› nI1_ne) | (exact absurd nI_0 ‹cmpT 1 (nI 0) 0›) | (exact absurd ‹cmpF 1 (nI 1) 0› nI1_ne) | (show wp _ _ _ _ _ _ _ _ _ _ _ _; conv => whnf))
  simp only [takeL, setL]
  have loop : ∀ j, j ≤ cT F → X 4 [.inr (8, w), .inl v, .inl (nI (cntB (homeP F v) j)), .inl (nI j)] [] s := by
    refine loopD (cT F) (fun j hj ih => ?_) ?_
    · clear h
      by_cases hm : homeP F v j = true
      · rw [cntB_1 hm] at ih
        have hm2 := of_decide_eq_true hm
        refine hX 1000 4 _ _ _ ?_
        repeat' (first | (intro hc) | (refine And.intro ?_ ?_) | (exact absurd nI_0 ‹cmpF 0 (nI 0) 0›) | (exact absurd ‹cmpT 0 (nI 1) 0› nI1_ne) | (exact absurd nI_0 ‹cmpT 1 (nI 0) 0›) | (exact absurd ‹cmpF 1 (nI 1) 0› nI1_ne) | (show wp _ _ _ _ _ _ _ _ _ _ _ _; conv => whnf) | (simp (disch := omega) only [nI_add, nI_mul, setN_now, setN_put, nI_cl, Nat.add_zero]) | (refine hcall _ _ _ _ ?_; first | (refine c_homeOfSite hw hR hj ?_) | fail))
        all_goals first
          | (simp only [takeL, setL, nI_add]; exact ih)
          | (exfalso; exact (by assumption : cmpT 1 (nI _) v) hm2)
          | (clear ih; (try clear hX hcall); (try clear h); (try simp (disch := omega) only [cmpT, cmpF, bI_eq0, bI_ne0, Classical.not_not, nI_toI, nI_cl, nI_inj, nI_add, nI_mul, nI_subI, takeL, setL, Int32.toInt_zero, Nat.add_zero, setN_now, alen20, alen11, alen12, alen13, alen14, alen15, alen16, alen17, alen18, alen19, (id e2)] at *); omega)
      · rw [cntB_0 hm] at ih
        have hm2 : ¬ nI (homeF F (F (29 + 17 * j)) (F (29 + 17 * j + 1))) = v := fun q => hm (decide_eq_true q)
        refine hX 1000 4 _ _ _ ?_
        repeat' (first | (intro hc) | (refine And.intro ?_ ?_) | (exact absurd nI_0 ‹cmpF 0 (nI 0) 0›) | (exact absurd ‹cmpT 0 (nI 1) 0› nI1_ne) | (exact absurd nI_0 ‹cmpT 1 (nI 0) 0›) | (exact absurd ‹cmpF 1 (nI 1) 0› nI1_ne) | (show wp _ _ _ _ _ _ _ _ _ _ _ _; conv => whnf) | (simp (disch := omega) only [nI_add, nI_mul, setN_now, setN_put, nI_cl, Nat.add_zero]) | (refine hcall _ _ _ _ ?_; first | (refine c_homeOfSite hw hR hj ?_) | fail))
        all_goals first
          | (simp only [takeL, setL, nI_add]; exact ih)
          | (exfalso; exact hm2 (by assumption : cmpF 1 (nI _) v))
          | (clear ih hm2; (try clear hX hcall); (try clear h); (try simp (disch := omega) only [cmpT, cmpF, bI_eq0, bI_ne0, Classical.not_not, nI_toI, nI_cl, nI_inj, nI_add, nI_mul, nI_subI, takeL, setL, Int32.toInt_zero, Nat.add_zero, setN_now, alen20, alen11, alen12, alen13, alen14, alen15, alen16, alen17, alen18, alen19, (id e2)] at *); omega)
    · refine hX 1000 4 _ _ _ ?_
      repeat' (first | (intro hc) | (refine And.intro ?_ ?_) | (exact absurd nI_0 ‹cmpF 0 (nI 0) 0›) | (exact absurd ‹cmpT 0 (nI 1) 0› nI1_ne) | (exact absurd nI_0 ‹cmpT 1 (nI 0) 0›) | (exact absurd ‹cmpF 1 (nI 1) 0› nI1_ne) | (show wp _ _ _ _ _ _ _ _ _ _ _ _; conv => whnf))
      all_goals first
        | exact h
        | ((try clear hX hcall); (try clear h); (try simp (disch := omega) only [cmpT, cmpF, bI_eq0, bI_ne0, Classical.not_not, nI_toI, nI_cl, nI_inj, nI_add, nI_mul, nI_subI, takeL, setL, Int32.toInt_zero, Nat.add_zero, setN_now, alen20, alen11, alen12, alen13, alen14, alen15, alen16, alen17, alen18, alen19, (id e2)] at *); omega)
  exact loop 0 (by omega)
set_option maxHeartbeats 4000000 in
set_option maxRecDepth 100000 in
theorem c_sitesUp (hw : WF F B) (hR : RepW s w F) (h : Q (some (.inl (nI (cntB (upP F) (cT F))))) s) : wpM L xs codT retT (f + 3) m_X8_sitesUp [.inr (8, w)] s Q := by
  have t2 := hw.t2
  have e2 : s.1 8 w 4 = nI (cT F) := hR.t1.trans hw.t1
  intro call hcall X hX; refine hX 1000 0 _ _ _ ?_
  repeat' (first | (intro hc) | (refine And.intro ?_ ?_) | (exact absurd nI_0 ‹cmpF 0 (nI 0) 0›) | (exact absurd ‹cmpT 0 (nI 1) 0› nI1_ne) | (exact absurd nI_0 ‹cmpT 1 (nI 0) 0›) | (exact absurd ‹cmpF 1 (nI 1) 0› nI1_ne) | (show wp _ _ _ _ _ _ _ _ _ _ _ _; conv => whnf))
  simp only [takeL, setL]
  have loop : ∀ j, j ≤ cT F → X 4 [.inr (8, w), .inl (nI (cntB (upP F) j)), .inl (nI j)] [] s := by
    refine loopD (cT F) (fun j hj ih => ?_) ?_
    · clear h
      by_cases hm : upP F j = true
      · rw [cntB_1 hm] at ih
        have hm2 := of_decide_eq_true hm
        refine hX 1000 4 _ _ _ ?_
        repeat' (first | (intro hc) | (refine And.intro ?_ ?_) | (exact absurd nI_0 ‹cmpF 0 (nI 0) 0›) | (exact absurd ‹cmpT 0 (nI 1) 0› nI1_ne) | (exact absurd nI_0 ‹cmpT 1 (nI 0) 0›) | (exact absurd ‹cmpF 1 (nI 1) 0› nI1_ne) | (show wp _ _ _ _ _ _ _ _ _ _ _ _; conv => whnf) | (simp (disch := omega) only [nI_cl]) | (simp (disch := omega) only [nI_add, nI_mul, setN_now, setN_put, nI_cl, Nat.add_zero]) | (refine hcall _ _ _ _ ?_; first | (refine c_siteUp hw hR hj ?_) | fail))
        all_goals first
          | (simp only [takeL, setL, nI_add]; exact ih)
          | (exfalso; exact bF hm2 (by assumption))
          | (clear ih; (try clear hX hcall); (try clear h); (try simp (disch := omega) only [cmpT, cmpF, bI_eq0, bI_ne0, Classical.not_not, nI_toI, nI_cl, nI_inj, nI_add, nI_mul, nI_subI, takeL, setL, Int32.toInt_zero, Nat.add_zero, setN_now, alen20, alen11, alen12, alen13, alen14, alen15, alen16, alen17, alen18, alen19, (id e2)] at *); omega)
      · rw [cntB_0 hm] at ih
        have hm2 : ¬ upF F j := fun q => hm (decide_eq_true q)
        refine hX 1000 4 _ _ _ ?_
        repeat' (first | (intro hc) | (refine And.intro ?_ ?_) | (exact absurd nI_0 ‹cmpF 0 (nI 0) 0›) | (exact absurd ‹cmpT 0 (nI 1) 0› nI1_ne) | (exact absurd nI_0 ‹cmpT 1 (nI 0) 0›) | (exact absurd ‹cmpF 1 (nI 1) 0› nI1_ne) | (show wp _ _ _ _ _ _ _ _ _ _ _ _; conv => whnf) | (simp (disch := omega) only [nI_cl]) | (simp (disch := omega) only [nI_add, nI_mul, setN_now, setN_put, nI_cl, Nat.add_zero]) | (refine hcall _ _ _ _ ?_; first | (refine c_siteUp hw hR hj ?_) | fail))
        all_goals first
          | (simp only [takeL, setL, nI_add]; exact ih)
          | (exfalso; exact bT hm2 (by assumption))
          | (clear ih hm2; (try clear hX hcall); (try clear h); (try simp (disch := omega) only [cmpT, cmpF, bI_eq0, bI_ne0, Classical.not_not, nI_toI, nI_cl, nI_inj, nI_add, nI_mul, nI_subI, takeL, setL, Int32.toInt_zero, Nat.add_zero, setN_now, alen20, alen11, alen12, alen13, alen14, alen15, alen16, alen17, alen18, alen19, (id e2)] at *); omega)
    · refine hX 1000 4 _ _ _ ?_
      repeat' (first | (intro hc) | (refine And.intro ?_ ?_) | (exact absurd nI_0 ‹cmpF 0 (nI 0) 0›) | (exact absurd ‹cmpT 0 (nI 1) 0› nI1_ne) | (exact absurd nI_0 ‹cmpT 1 (nI 0) 0›) | (exact absurd ‹cmpF 1 (nI 1) 0› nI1_ne) | (show wp _ _ _ _ _ _ _ _ _ _ _ _; conv => whnf))
      all_goals first
        | exact h
        | ((try clear hX hcall); (try clear h); (try simp (disch := omega) only [cmpT, cmpF, bI_eq0, bI_ne0, Classical.not_not, nI_toI, nI_cl, nI_inj, nI_add, nI_mul, nI_subI, takeL, setL, Int32.toInt_zero, Nat.add_zero, setN_now, alen20, alen11, alen12, alen13, alen14, alen15, alen16, alen17, alen18, alen19, (id e2)] at *); omega)
  exact loop 0 (by omega)
theorem c_answerForE {o : Option Nat} (hw : WF F B) (hR : RepW s w F) (hn : iN name 256) (e : ansF F name = o) (h : Q (some (.inl (optI o (-1)))) s) : wpM L xs codT retT (f + 3) m_X8_answerFor [.inr (8, w), .inl name] s Q := c_answerFor hw hR hn (by rw [e]; exact h)
theorem nI_m1n {b : Nat} (h : b < 1000) : ¬ nI b = -1 := by
  intro q
  have := congrArg Int32.toInt q
  have e : (nI b).toInt = (b : Int) := nI_toI (by omega)
  have e2 : ((-1 : Int32)).toInt = -1 := by decide
  omega
set_option maxHeartbeats 4000000 in
set_option maxRecDepth 100000 in
theorem c_namesWithAnswer (hw : WF F B) (hR : RepW s w F) (h : Q (some (.inl (nI (cntB (ansP F) 256)))) s) : wpM L xs codT retT (f + 4) m_X8_namesWithAnswer [.inr (8, w)] s Q := by
  have t2 := hw.t2
  intro call hcall X hX; refine hX 1000 0 _ _ _ ?_
  repeat' (first | (intro hc) | (refine And.intro ?_ ?_) | (exact absurd nI_0 ‹cmpF 0 (nI 0) 0›) | (exact absurd ‹cmpT 0 (nI 1) 0› nI1_ne) | (exact absurd nI_0 ‹cmpT 1 (nI 0) 0›) | (exact absurd ‹cmpF 1 (nI 1) 0› nI1_ne) | (show wp _ _ _ _ _ _ _ _ _ _ _ _; conv => whnf))
  simp only [takeL, setL]
  have loop : ∀ j, j ≤ 256 → X 4 [.inr (8, w), .inl (nI (cntB (ansP F) j)), .inl (nI j)] [] s := by
    refine loopD 256 (fun j hj ih => ?_) ?_
    · clear h
      have hj2 := iN_k hj (by omega)
      cases ho : ansF F (nI j) with
      | some b =>
        have hb := ansF_lt ho
        have hb5 : ¬ nI b = -1 := nI_m1n (by omega)
        rw [cntB_1 (p := ansP F) (n := j) (decide_eq_true (by rw [ho]; exact fun q => nomatch q))] at ih
        refine hX 1000 4 _ _ _ ?_
        repeat' (first | (intro hc) | (refine And.intro ?_ ?_) | (exact absurd nI_0 ‹cmpF 0 (nI 0) 0›) | (exact absurd ‹cmpT 0 (nI 1) 0› nI1_ne) | (exact absurd nI_0 ‹cmpT 1 (nI 0) 0›) | (exact absurd ‹cmpF 1 (nI 1) 0› nI1_ne) | (show wp _ _ _ _ _ _ _ _ _ _ _ _; conv => whnf) | (simp (disch := omega) only [nI_add, nI_mul, setN_now, setN_put, nI_cl, Nat.add_zero]) | (refine hcall _ _ _ _ ?_; first | (refine c_answerForE hw hR hj2 ho ?_) | fail))
        all_goals first
          | (simp only [takeL, setL, nI_add]; exact ih)
          | (exfalso; exact hb5 (by assumption : cmpT 0 (optI (some b) (-1)) (-1)))
          | (clear ih hb5 hj2; (try clear hX hcall); (try clear h); (try simp (disch := omega) only [cmpT, cmpF, bI_eq0, bI_ne0, Classical.not_not, nI_toI, nI_cl, nI_inj, nI_add, nI_mul, nI_subI, takeL, setL, Int32.toInt_zero, Nat.add_zero, Nat.zero_mul, Nat.zero_add, alen11, alen12, alen13, alen14, alen15, alen16, alen17, alen18, alen19] at *); omega)
      | none =>
        rw [cntB_0 (p := ansP F) (n := j) (fun q => of_decide_eq_true q ho)] at ih
        refine hX 1000 4 _ _ _ ?_
        repeat' (first | (intro hc) | (refine And.intro ?_ ?_) | (exact absurd nI_0 ‹cmpF 0 (nI 0) 0›) | (exact absurd ‹cmpT 0 (nI 1) 0› nI1_ne) | (exact absurd nI_0 ‹cmpT 1 (nI 0) 0›) | (exact absurd ‹cmpF 1 (nI 1) 0› nI1_ne) | (show wp _ _ _ _ _ _ _ _ _ _ _ _; conv => whnf) | (simp (disch := omega) only [nI_add, nI_mul, setN_now, setN_put, nI_cl, Nat.add_zero]) | (refine hcall _ _ _ _ ?_; first | (refine c_answerForE hw hR hj2 ho ?_) | fail))
        all_goals first
          | (simp only [takeL, setL, nI_add]; exact ih)
          | (exfalso; exact (by assumption : cmpF 0 (optI none (-1)) (-1)) rfl)
          | (clear ih hj2; (try clear hX hcall); (try clear h); (try simp (disch := omega) only [cmpT, cmpF, bI_eq0, bI_ne0, Classical.not_not, nI_toI, nI_cl, nI_inj, nI_add, nI_mul, nI_subI, takeL, setL, Int32.toInt_zero, Nat.add_zero, Nat.zero_mul, Nat.zero_add, alen11, alen12, alen13, alen14, alen15, alen16, alen17, alen18, alen19] at *); omega)
    · refine hX 1000 4 _ _ _ ?_
      repeat' (first | (intro hc) | (refine And.intro ?_ ?_) | (exact absurd nI_0 ‹cmpF 0 (nI 0) 0›) | (exact absurd ‹cmpT 0 (nI 1) 0› nI1_ne) | (exact absurd nI_0 ‹cmpT 1 (nI 0) 0›) | (exact absurd ‹cmpF 1 (nI 1) 0› nI1_ne) | (show wp _ _ _ _ _ _ _ _ _ _ _ _; conv => whnf))
      all_goals first
        | exact h
        | ((try clear hX hcall); (try clear h); (try simp (disch := omega) only [cmpT, cmpF, bI_eq0, bI_ne0, Classical.not_not, nI_toI, nI_cl, nI_inj, nI_add, nI_mul, nI_subI, takeL, setL, Int32.toInt_zero, Nat.add_zero, Nat.zero_mul, Nat.zero_add, alen11, alen12, alen13, alen14, alen15, alen16, alen17, alen18, alen19] at *); omega)
  exact loop 0 (by omega)
set_option maxHeartbeats 4000000 in
set_option maxRecDepth 100000 in
theorem c_serverProp (hw : WF F B) (hR : RepW s w F) (h : Q (some (.inl (serverA F v a))) s) : wpM L xs codT retT (f + 5) m_X8_serverProperty [.inr (8, w), .inl v, .inl a] s Q := by
  have s2 := hw.s2
  have e1 : s.1 8 w 3 = nI (cS F) := hR.s1.trans hw.s1
  by_cases hv : iN v (cS F)
  · obtain ⟨k, hp, hpl⟩ := iN_nn hv (by omega)
    subst hp
    have en : nn (nI k) = k := nI_cl (by omega)
    obtain ⟨r0, r1, r2⟩ := hR.server hpl
    by_cases hb : iN a 6
    · obtain ⟨j, hq, hql⟩ := iN_nn hb (by omega)
      subst hq
      have ej : nn (nI j) = j := nI_cl (by omega)
      have e : serverA F (nI k) (nI j) = if (nI j).toInt < 3 then F (5 + 3 * k + j) else if (nI j).toInt = 3 then nI (cntB (childP F (nI k)) (cS F)) else if (nI j).toInt = 4 then nI (wayF F k) else nI (cntB (homeP F (nI k)) (cT F)) := by unfold serverA; rw [if_neg (fun q => q hv), if_neg (fun q => q hb), en, ej]
      rw [e, nI_toI (by omega)] at h
      have hj : j = 0 ∨ j = 1 ∨ j = 2 ∨ j = 3 ∨ j = 4 ∨ j = 5 := by omega
      rcases hj with hj | hj | hj | hj | hj | hj <;> subst hj <;> (first | rw [if_pos (by omega)] at h | rw [if_neg (by omega), if_pos (by omega)] at h | rw [if_neg (by omega), if_neg (by omega), if_pos (by omega)] at h | rw [if_neg (by omega), if_neg (by omega), if_neg (by omega)] at h)
      all_goals
        intro call hcall X hX; refine hX 1000 0 _ _ _ ?_
        repeat' (first | (intro hc) | (refine And.intro ?_ ?_) | (exact absurd nI_0 ‹cmpF 0 (nI 0) 0›) | (exact absurd ‹cmpT 0 (nI 1) 0› nI1_ne) | (exact absurd nI_0 ‹cmpT 1 (nI 0) 0›) | (exact absurd ‹cmpF 1 (nI 1) 0› nI1_ne) | (show wp _ _ _ _ _ _ _ _ _ _ _ _; conv => whnf) | (simp (disch := omega) only [nI_cl]) | (simp (disch := omega) only [nI_add, nI_mul, setN_now, setN_put, nI_cl, Nat.add_zero]) | (refine hcall _ _ _ _ ?_; first | (refine c_isServer e1 s2.2 ?_) | (refine c_hopsTo hw hR hpl ?_) | (refine c_childrenOf hw hR (by omega) ?_) | (refine c_sitesAtHome hw hR ?_) | fail))
        all_goals first
          | exact h
          | (rw [r0]; exact h)
          | (rw [r1]; exact h)
          | (rw [r2]; exact h)
          | (exfalso; exact bF hv (by assumption))
          | exact absurd (ofN 0).symm (by assumption)
          | exact absurd (ofN 1).symm (by assumption)
          | exact absurd (ofN 2).symm (by assumption)
          | exact absurd (ofN 3).symm (by assumption)
          | exact absurd (ofN 4).symm (by assumption)
          | exact absurd (ofN 5).symm (by assumption)
          | (exfalso; clear hX hcall h hb hv e; simp (disch := omega) only [ofN, nI_inj] at * <;> omega)
          | (clear hb hv e; (try clear hX hcall); (try clear h); (try simp (disch := omega) only [cmpT, cmpF, bI_eq0, bI_ne0, Classical.not_not, nI_toI, nI_cl, nI_inj, nI_add, nI_mul, nI_subI, takeL, setL, Int32.toInt_zero, Nat.add_zero, Nat.zero_mul, Nat.zero_add, alen11, alen12, alen13, alen14, alen15, alen16, alen17, alen18, alen19] at *); omega)
    · have e : serverA F (nI k) a = -2 := by unfold serverA; rw [if_neg (fun q => q hv), if_pos hb]
      rw [e] at h
      intro call hcall X hX; refine hX 1000 0 _ _ _ ?_
      repeat' (first | (intro hc) | (refine And.intro ?_ ?_) | (exact absurd nI_0 ‹cmpF 0 (nI 0) 0›) | (exact absurd ‹cmpT 0 (nI 1) 0› nI1_ne) | (exact absurd nI_0 ‹cmpT 1 (nI 0) 0›) | (exact absurd ‹cmpF 1 (nI 1) 0› nI1_ne) | (show wp _ _ _ _ _ _ _ _ _ _ _ _; conv => whnf) | (simp (disch := omega) only [nI_cl]) | (simp (disch := omega) only [nI_add, nI_mul, setN_now, setN_put, nI_cl, Nat.add_zero]) | (refine hcall _ _ _ _ ?_; first | (refine c_isServer e1 s2.2 ?_) | fail))
      all_goals first
        | exact h
        | (exfalso; exact bF hv (by assumption))
        | exact absurd (iN_of (show a = Int32.ofNat 0 by assumption) (by decide) (by decide)) hb
        | exact absurd (iN_of (show a = Int32.ofNat 1 by assumption) (by decide) (by decide)) hb
        | exact absurd (iN_of (show a = Int32.ofNat 2 by assumption) (by decide) (by decide)) hb
        | exact absurd (iN_of (show a = Int32.ofNat 3 by assumption) (by decide) (by decide)) hb
        | exact absurd (iN_of (show a = Int32.ofNat 4 by assumption) (by decide) (by decide)) hb
        | exact absurd (iN_of (show a = Int32.ofNat 5 by assumption) (by decide) (by decide)) hb
  · have e : serverA F v a = -1 := by unfold serverA; rw [if_pos hv]
    rw [e] at h
    intro call hcall X hX; refine hX 1000 0 _ _ _ ?_
    repeat' (first | (intro hc) | (refine And.intro ?_ ?_) | (exact absurd nI_0 ‹cmpF 0 (nI 0) 0›) | (exact absurd ‹cmpT 0 (nI 1) 0› nI1_ne) | (exact absurd nI_0 ‹cmpT 1 (nI 0) 0›) | (exact absurd ‹cmpF 1 (nI 1) 0› nI1_ne) | (show wp _ _ _ _ _ _ _ _ _ _ _ _; conv => whnf) | (simp (disch := omega) only [nI_add, nI_mul, setN_now, setN_put, nI_cl, Nat.add_zero]) | (refine hcall _ _ _ _ ?_; first | (refine c_isServer e1 s2.2 ?_) | fail))
    all_goals first
      | exact h
      | (exfalso; exact bT hv (by assumption))
set_option maxHeartbeats 4000000 in
set_option maxRecDepth 100000 in
theorem c_siteProp (hw : WF F B) (hR : RepW s w F) (hw10 : w < 10) (h : Q (some (.inl (siteA F v a))) s) : wpM L xs codT retT (f + 4) m_X8_siteProperty [.inr (8, w), .inl v, .inl a] s Q := by
  have t2 := hw.t2
  have e2 : s.1 8 w 4 = nI (cT F) := hR.t1.trans hw.t1
  by_cases hv : iN v (cT F)
  · obtain ⟨k, hp, hpl⟩ := iN_nn hv (by omega)
    subst hp
    have en : nn (nI k) = k := nI_cl (by omega)
    obtain ⟨r0, r1, r2, r3, r4, -⟩ := hR.site hpl
    by_cases hb : iN a 8
    · obtain ⟨j, hq, hql⟩ := iN_nn hb (by omega)
      subst hq
      have ej : nn (nI j) = j := nI_cl (by omega)
      have e : siteA F (nI k) (nI j) = if (nI j).toInt < 5 then F (29 + 17 * k + j) else if (nI j).toInt = 5 then nI (homeF F (F (29 + 17 * k)) (F (29 + 17 * k + 1))) else if (nI j).toInt = 6 then bI (upF F k) else nI (copN F (nI k) (cR F)) := by unfold siteA; rw [if_neg (fun q => q hv), if_neg (fun q => q hb), en, ej]
      rw [e, nI_toI (by omega)] at h
      have hj : j = 0 ∨ j = 1 ∨ j = 2 ∨ j = 3 ∨ j = 4 ∨ j = 5 ∨ j = 6 ∨ j = 7 := by omega
      rcases hj with hj | hj | hj | hj | hj | hj | hj | hj <;> subst hj <;> (first | rw [if_pos (by omega)] at h | rw [if_neg (by omega), if_pos (by omega)] at h | rw [if_neg (by omega), if_neg (by omega), if_pos (by omega)] at h | rw [if_neg (by omega), if_neg (by omega), if_neg (by omega)] at h)
      all_goals
        intro call hcall X hX; refine hX 1000 0 _ _ _ ?_
        repeat' (first | (intro hc) | (refine And.intro ?_ ?_) | (exact absurd nI_0 ‹cmpF 0 (nI 0) 0›) | (exact absurd ‹cmpT 0 (nI 1) 0› nI1_ne) | (exact absurd nI_0 ‹cmpT 1 (nI 0) 0›) | (exact absurd ‹cmpF 1 (nI 1) 0› nI1_ne) | (show wp _ _ _ _ _ _ _ _ _ _ _ _; conv => whnf) | (simp (disch := omega) only [nI_cl]) | (simp (disch := omega) only [nI_add, nI_mul, setN_now, setN_put, nI_cl, Nat.add_zero]) | (refine hcall _ _ _ _ ?_; first | (refine c_isSite e2 t2 ?_) | (refine c_homeOfSite hw hR hpl ?_) | (refine c_siteUp hw hR hpl ?_) | (refine c_mapsOf hw hR hw10 ?_) | fail))
        all_goals first
          | exact h
          | (rw [r0]; exact h)
          | (rw [r1]; exact h)
          | (rw [r2]; exact h)
          | (rw [r3]; exact h)
          | (rw [r4]; exact h)
          | (refine bI_1 h ?_; exact bI_ne0.mp (by assumption))
          | (refine bI_0 h ?_; exact bI_eq0.mp (by assumption))
          | (exfalso; exact bF hv (by assumption))
          | exact absurd (ofN 0).symm (by assumption)
          | exact absurd (ofN 1).symm (by assumption)
          | exact absurd (ofN 2).symm (by assumption)
          | exact absurd (ofN 3).symm (by assumption)
          | exact absurd (ofN 4).symm (by assumption)
          | exact absurd (ofN 5).symm (by assumption)
          | exact absurd (ofN 6).symm (by assumption)
          | exact absurd (ofN 7).symm (by assumption)
          | (exfalso; clear hX hcall h hb hv e; simp (disch := omega) only [ofN, nI_inj] at * <;> omega)
          | (clear hb hv e; (try clear hX hcall); (try clear h); (try simp (disch := omega) only [cmpT, cmpF, bI_eq0, bI_ne0, Classical.not_not, nI_toI, nI_cl, nI_inj, nI_add, nI_mul, nI_subI, takeL, setL, Int32.toInt_zero, Nat.add_zero, Nat.zero_mul, Nat.zero_add, alen11, alen12, alen13, alen14, alen15, alen16, alen17, alen18, alen19] at *); omega)
    · have e : siteA F (nI k) a = -2 := by unfold siteA; rw [if_neg (fun q => q hv), if_pos hb]
      rw [e] at h
      intro call hcall X hX; refine hX 1000 0 _ _ _ ?_
      repeat' (first | (intro hc) | (refine And.intro ?_ ?_) | (exact absurd nI_0 ‹cmpF 0 (nI 0) 0›) | (exact absurd ‹cmpT 0 (nI 1) 0› nI1_ne) | (exact absurd nI_0 ‹cmpT 1 (nI 0) 0›) | (exact absurd ‹cmpF 1 (nI 1) 0› nI1_ne) | (show wp _ _ _ _ _ _ _ _ _ _ _ _; conv => whnf) | (simp (disch := omega) only [nI_cl]) | (simp (disch := omega) only [nI_add, nI_mul, setN_now, setN_put, nI_cl, Nat.add_zero]) | (refine hcall _ _ _ _ ?_; first | (refine c_isSite e2 t2 ?_) | fail))
      all_goals first
        | exact h
        | (exfalso; exact bF hv (by assumption))
        | exact absurd (iN_of (show a = Int32.ofNat 0 by assumption) (by decide) (by decide)) hb
        | exact absurd (iN_of (show a = Int32.ofNat 1 by assumption) (by decide) (by decide)) hb
        | exact absurd (iN_of (show a = Int32.ofNat 2 by assumption) (by decide) (by decide)) hb
        | exact absurd (iN_of (show a = Int32.ofNat 3 by assumption) (by decide) (by decide)) hb
        | exact absurd (iN_of (show a = Int32.ofNat 4 by assumption) (by decide) (by decide)) hb
        | exact absurd (iN_of (show a = Int32.ofNat 5 by assumption) (by decide) (by decide)) hb
        | exact absurd (iN_of (show a = Int32.ofNat 6 by assumption) (by decide) (by decide)) hb
        | exact absurd (iN_of (show a = Int32.ofNat 7 by assumption) (by decide) (by decide)) hb
  · have e : siteA F v a = -1 := by unfold siteA; rw [if_pos hv]
    rw [e] at h
    intro call hcall X hX; refine hX 1000 0 _ _ _ ?_
    repeat' (first | (intro hc) | (refine And.intro ?_ ?_) | (exact absurd nI_0 ‹cmpF 0 (nI 0) 0›) | (exact absurd ‹cmpT 0 (nI 1) 0› nI1_ne) | (exact absurd nI_0 ‹cmpT 1 (nI 0) 0›) | (exact absurd ‹cmpF 1 (nI 1) 0› nI1_ne) | (show wp _ _ _ _ _ _ _ _ _ _ _ _; conv => whnf) | (simp (disch := omega) only [nI_add, nI_mul, setN_now, setN_put, nI_cl, Nat.add_zero]) | (refine hcall _ _ _ _ ?_; first | (refine c_isSite e2 t2 ?_) | fail))
    all_goals first
      | exact h
      | (exfalso; exact bT hv (by assumption))
def totW (F : Fm) (j : Nat) : Int32 := match j with
  | 0 => F 0 | 1 => F 1 | 2 => F 2 | 3 => F 3 | 4 => nI (cntB (upP F) (cT F)) | 5 => sumN F 0 (cR F) | 6 => sumN F 1 (cR F) | 7 => sumN F 3 (cR F) | 8 => sumN F 4 (cR F) | 9 => sumN F 5 (cR F) | 10 => F 4 | 13 => nI (cntB (ansP F) 256) | _ => -2
set_option maxHeartbeats 4000000 in
set_option maxRecDepth 100000 in
theorem c_totalOf (hw : WF F B) (hR : RepW s w F) (hv : ¬ (v = nI 11 ∨ v = nI 12)) (h : Q (some (.inl (if iN v 14 then totW F (nn v) else -2))) s) : wpM L xs codT retT (f + 5) m_X8_totalOf [.inr (8, w), .inl v] s Q := by
  have w0 := hR.h1
  have w1 := hR.s1
  have w2 := hR.t1
  have w3 := hR.r1
  have w4 := hR.l1
  by_cases hb : iN v 14
  · obtain ⟨j, hq, hql⟩ := iN_nn hb (by omega)
    subst hq
    rw [if_pos hb, show nn (nI j) = j from nI_cl (by omega)] at h
    have hj : j = 0 ∨ j = 1 ∨ j = 2 ∨ j = 3 ∨ j = 4 ∨ j = 5 ∨ j = 6 ∨ j = 7 ∨ j = 8 ∨ j = 9 ∨ j = 10 ∨ j = 13 := by
      have h11 : j ≠ 11 := fun q => hv (Or.inl (by rw [q]))
      have h12 : j ≠ 12 := fun q => hv (Or.inr (by rw [q]))
      omega
    clear hv
    rcases hj with hj | hj | hj | hj | hj | hj | hj | hj | hj | hj | hj | hj <;> subst hj
    all_goals
      intro call hcall X hX; refine hX 1000 0 _ _ _ ?_
      repeat' (first | (intro hc) | (refine And.intro ?_ ?_) | (exact absurd nI_0 ‹cmpF 0 (nI 0) 0›) | (exact absurd ‹cmpT 0 (nI 1) 0› nI1_ne) | (exact absurd nI_0 ‹cmpT 1 (nI 0) 0›) | (exact absurd ‹cmpF 1 (nI 1) 0› nI1_ne) | (show wp _ _ _ _ _ _ _ _ _ _ _ _; conv => whnf) | (simp (disch := omega) only [nI_add, nI_mul, setN_now, setN_put, nI_cl, Nat.add_zero]) | (refine hcall _ _ _ _ ?_; first | (refine c_sitesUp hw hR ?_) | (refine c_sumOver hw hR (by omega) ?_) | (refine c_namesWithAnswer hw hR ?_) | fail))
      all_goals first
        | exact h
        | (rw [w0]; exact h)
        | (rw [w1]; exact h)
        | (rw [w2]; exact h)
        | (rw [w3]; exact h)
        | (rw [w4]; exact h)
        | exact absurd (ofN 0).symm (by assumption)
        | exact absurd (ofN 1).symm (by assumption)
        | exact absurd (ofN 2).symm (by assumption)
        | exact absurd (ofN 3).symm (by assumption)
        | exact absurd (ofN 4).symm (by assumption)
        | exact absurd (ofN 5).symm (by assumption)
        | exact absurd (ofN 6).symm (by assumption)
        | exact absurd (ofN 7).symm (by assumption)
        | exact absurd (ofN 8).symm (by assumption)
        | exact absurd (ofN 9).symm (by assumption)
        | exact absurd (ofN 10).symm (by assumption)
        | exact absurd (ofN 11).symm (by assumption)
        | exact absurd (ofN 12).symm (by assumption)
        | exact absurd (ofN 13).symm (by assumption)
        | (exfalso; clear hX hcall h hb w0 w1 w2 w3 w4; simp (disch := omega) only [ofN, nI_inj] at * <;> omega)
  · rw [if_neg hb] at h
    intro call hcall X hX; refine hX 1000 0 _ _ _ ?_
    repeat' (first | (intro hc) | (refine And.intro ?_ ?_) | (exact absurd nI_0 ‹cmpF 0 (nI 0) 0›) | (exact absurd ‹cmpT 0 (nI 1) 0› nI1_ne) | (exact absurd nI_0 ‹cmpT 1 (nI 0) 0›) | (exact absurd ‹cmpF 1 (nI 1) 0› nI1_ne) | (show wp _ _ _ _ _ _ _ _ _ _ _ _; conv => whnf))
    all_goals first
      | exact h
      | exact absurd (iN_of (show v = Int32.ofNat 0 by assumption) (by decide) (by decide)) hb
      | exact absurd (iN_of (show v = Int32.ofNat 1 by assumption) (by decide) (by decide)) hb
      | exact absurd (iN_of (show v = Int32.ofNat 2 by assumption) (by decide) (by decide)) hb
      | exact absurd (iN_of (show v = Int32.ofNat 3 by assumption) (by decide) (by decide)) hb
      | exact absurd (iN_of (show v = Int32.ofNat 4 by assumption) (by decide) (by decide)) hb
      | exact absurd (iN_of (show v = Int32.ofNat 5 by assumption) (by decide) (by decide)) hb
      | exact absurd (iN_of (show v = Int32.ofNat 6 by assumption) (by decide) (by decide)) hb
      | exact absurd (iN_of (show v = Int32.ofNat 7 by assumption) (by decide) (by decide)) hb
      | exact absurd (iN_of (show v = Int32.ofNat 8 by assumption) (by decide) (by decide)) hb
      | exact absurd (iN_of (show v = Int32.ofNat 9 by assumption) (by decide) (by decide)) hb
      | exact absurd (iN_of (show v = Int32.ofNat 10 by assumption) (by decide) (by decide)) hb
      | exact absurd (iN_of (show v = Int32.ofNat 11 by assumption) (by decide) (by decide)) hb
      | exact absurd (iN_of (show v = Int32.ofNat 12 by assumption) (by decide) (by decide)) hb
      | exact absurd (iN_of (show v = Int32.ofNat 13 by assumption) (by decide) (by decide)) hb
end CLS6
