/-! THE CLASS: properties -/
def plP (F : Fm) (r : Nat) (v : Int32) : Nat → Bool := copP F r v
section CLS5
variable {L : Nat} {xs : Nat → Int32} {f i k r q c j n B b w m sd : Nat} {x y v a z l lo v0 v1 name flow place : Int32} {s : St} {F G F' u : Fm} {Q : Option MV → St → Prop} {P : Nat → Bool}
theorem firN_some : ∀ n k, firN P n k = some m → k ≤ m ∧ m < k + n ∧ P m = true := by
  intro n
  induction n with
  | zero => intro k h; cases h
  | succ n ih =>
    intro k h
    by_cases hk : P k = true
    · rw [firN_1 hk] at h
      cases h
      exact ⟨by omega, by omega, hk⟩
    · rw [firN_0 hk] at h
      have := ih _ h
      exact ⟨by omega, by omega, this.2.2⟩
theorem firN_none : ∀ n k, firN P n k = none → ∀ i, k ≤ i → i < k + n → ¬ P i = true := by
  intro n
  induction n with
  | zero => intro k _ i h1 h2; omega
  | succ n ih =>
    intro k h i h1 h2
    by_cases hk : P k = true
    · rw [firN_1 hk] at h; cases h
    · rw [firN_0 hk] at h
      by_cases e : i = k
      · subst e; exact hk
      · exact ih _ h i (by omega) (by omega)
theorem cnt_0 : ∀ n, (∀ i, i < n → ¬ P i = true) → cntB P n = 0
  | 0, _ => rfl
  | n + 1, h => by rw [cntB_0 (h n (by omega)), cnt_0 n (fun i hi => h i (by omega))]
theorem cnt_1 : ∀ n, m < n → P m = true → (∀ i, i < n → P i = true → i = m) → cntB P n = 1
  | 0, h, _, _ => absurd h (by omega)
  | n + 1, h, hm, hu => by
    by_cases e : m = n
    · subst e
      rw [cntB_1 hm, cnt_0 m (fun i hi q => by have := hu i (by omega) q; omega)]
    · rw [cntB_0 (fun q => e (hu n (by omega) q).symm), cnt_1 n (by omega) hm (fun i hi => hu i (by omega))]
theorem cop_cnt (hr : WFrouter F r) : cntB (copP F r v) (cM F r) = match firN (copP F r v) (cM F r) 0 with | none => 0 | some _ => 1 := by
  cases h : firN (copP F r v) (cM F r) 0 with
  | none => exact cnt_0 _ (fun i hi => firN_none _ _ h i (by omega) (by omega))
  | some m =>
    obtain ⟨h1, h2, h3⟩ := firN_some _ _ h
    have h4 : F (mA r m) = v := of_decide_eq_true h3
    exact cnt_1 _ (by omega) h3 (fun i hi q => hr.2.2.2 i m hi (by omega) ((of_decide_eq_true q).trans h4.symm))
set_option maxHeartbeats 4000000 in
set_option maxRecDepth 100000 in
theorem c_rProp (hr : repRouter s i F r) (h : Q (some (.inl (if ¬ iN a 6 then -2 else F (165 + 6 * r + nn a)))) s) : wpM L xs codT retT (f + 1) m_X4_property [.inr (4, i), .inl a] s Q := by
  obtain ⟨p0, p1, p2, p3, p4, p5, -⟩ := hr
  by_cases hb : iN a 6
  · obtain ⟨j, hq, hql⟩ := iN_nn hb (by omega)
    subst hq
    have ej : nn (nI j) = j := nI_cl (by omega)
    rw [if_neg (fun q => q hb), ej] at h
    have hj : j = 0 ∨ j = 1 ∨ j = 2 ∨ j = 3 ∨ j = 4 ∨ j = 5 := by omega
    rcases hj with hj | hj | hj | hj | hj | hj <;> subst hj
    · rw [Nat.add_zero, ← p0] at h
      intro call hcall X hX; refine hX 1000 0 _ _ _ ?_
      repeat' (first | (intro hc) | (refine And.intro ?_ ?_) | (exact absurd nI_0 ‹cmpF 0 (nI 0) 0›) | (exact absurd ‹cmpT 0 (nI 1) 0› nI1_ne) | (exact absurd nI_0 ‹cmpT 1 (nI 0) 0›) | (exact absurd ‹cmpF 1 (nI 1) 0› nI1_ne) | (show wp _ _ _ _ _ _ _ _ _ _ _ _; conv => whnf))
      all_goals first
        | exact h
        | exact absurd (ofN 0).symm (by assumption)
        | exact absurd (ofN 1).symm (by assumption)
        | exact absurd (ofN 2).symm (by assumption)
        | exact absurd (ofN 3).symm (by assumption)
        | exact absurd (ofN 4).symm (by assumption)
        | exact absurd (ofN 5).symm (by assumption)
        | (exfalso; clear hX hcall h hb; simp (disch := omega) only [ofN, nI_inj] at * <;> omega)
    · rw [← p1] at h
      intro call hcall X hX; refine hX 1000 0 _ _ _ ?_
      repeat' (first | (intro hc) | (refine And.intro ?_ ?_) | (exact absurd nI_0 ‹cmpF 0 (nI 0) 0›) | (exact absurd ‹cmpT 0 (nI 1) 0› nI1_ne) | (exact absurd nI_0 ‹cmpT 1 (nI 0) 0›) | (exact absurd ‹cmpF 1 (nI 1) 0› nI1_ne) | (show wp _ _ _ _ _ _ _ _ _ _ _ _; conv => whnf))
      all_goals first
        | exact h
        | exact absurd (ofN 0).symm (by assumption)
        | exact absurd (ofN 1).symm (by assumption)
        | exact absurd (ofN 2).symm (by assumption)
        | exact absurd (ofN 3).symm (by assumption)
        | exact absurd (ofN 4).symm (by assumption)
        | exact absurd (ofN 5).symm (by assumption)
        | (exfalso; clear hX hcall h hb; simp (disch := omega) only [ofN, nI_inj] at * <;> omega)
    · rw [← p2] at h
      intro call hcall X hX; refine hX 1000 0 _ _ _ ?_
      repeat' (first | (intro hc) | (refine And.intro ?_ ?_) | (exact absurd nI_0 ‹cmpF 0 (nI 0) 0›) | (exact absurd ‹cmpT 0 (nI 1) 0› nI1_ne) | (exact absurd nI_0 ‹cmpT 1 (nI 0) 0›) | (exact absurd ‹cmpF 1 (nI 1) 0› nI1_ne) | (show wp _ _ _ _ _ _ _ _ _ _ _ _; conv => whnf))
      all_goals first
        | exact h
        | exact absurd (ofN 0).symm (by assumption)
        | exact absurd (ofN 1).symm (by assumption)
        | exact absurd (ofN 2).symm (by assumption)
        | exact absurd (ofN 3).symm (by assumption)
        | exact absurd (ofN 4).symm (by assumption)
        | exact absurd (ofN 5).symm (by assumption)
        | (exfalso; clear hX hcall h hb; simp (disch := omega) only [ofN, nI_inj] at * <;> omega)
    · rw [← p3] at h
      intro call hcall X hX; refine hX 1000 0 _ _ _ ?_
      repeat' (first | (intro hc) | (refine And.intro ?_ ?_) | (exact absurd nI_0 ‹cmpF 0 (nI 0) 0›) | (exact absurd ‹cmpT 0 (nI 1) 0› nI1_ne) | (exact absurd nI_0 ‹cmpT 1 (nI 0) 0›) | (exact absurd ‹cmpF 1 (nI 1) 0› nI1_ne) | (show wp _ _ _ _ _ _ _ _ _ _ _ _; conv => whnf))
      all_goals first
        | exact h
        | exact absurd (ofN 0).symm (by assumption)
        | exact absurd (ofN 1).symm (by assumption)
        | exact absurd (ofN 2).symm (by assumption)
        | exact absurd (ofN 3).symm (by assumption)
        | exact absurd (ofN 4).symm (by assumption)
        | exact absurd (ofN 5).symm (by assumption)
        | (exfalso; clear hX hcall h hb; simp (disch := omega) only [ofN, nI_inj] at * <;> omega)
    · rw [← p4] at h
      intro call hcall X hX; refine hX 1000 0 _ _ _ ?_
      repeat' (first | (intro hc) | (refine And.intro ?_ ?_) | (exact absurd nI_0 ‹cmpF 0 (nI 0) 0›) | (exact absurd ‹cmpT 0 (nI 1) 0› nI1_ne) | (exact absurd nI_0 ‹cmpT 1 (nI 0) 0›) | (exact absurd ‹cmpF 1 (nI 1) 0› nI1_ne) | (show wp _ _ _ _ _ _ _ _ _ _ _ _; conv => whnf))
      all_goals first
        | exact h
        | exact absurd (ofN 0).symm (by assumption)
        | exact absurd (ofN 1).symm (by assumption)
        | exact absurd (ofN 2).symm (by assumption)
        | exact absurd (ofN 3).symm (by assumption)
        | exact absurd (ofN 4).symm (by assumption)
        | exact absurd (ofN 5).symm (by assumption)
        | (exfalso; clear hX hcall h hb; simp (disch := omega) only [ofN, nI_inj] at * <;> omega)
    · rw [← p5] at h
      intro call hcall X hX; refine hX 1000 0 _ _ _ ?_
      repeat' (first | (intro hc) | (refine And.intro ?_ ?_) | (exact absurd nI_0 ‹cmpF 0 (nI 0) 0›) | (exact absurd ‹cmpT 0 (nI 1) 0› nI1_ne) | (exact absurd nI_0 ‹cmpT 1 (nI 0) 0›) | (exact absurd ‹cmpF 1 (nI 1) 0› nI1_ne) | (show wp _ _ _ _ _ _ _ _ _ _ _ _; conv => whnf))
      all_goals first
        | exact h
        | exact absurd (ofN 0).symm (by assumption)
        | exact absurd (ofN 1).symm (by assumption)
        | exact absurd (ofN 2).symm (by assumption)
        | exact absurd (ofN 3).symm (by assumption)
        | exact absurd (ofN 4).symm (by assumption)
        | exact absurd (ofN 5).symm (by assumption)
        | (exfalso; clear hX hcall h hb; simp (disch := omega) only [ofN, nI_inj] at * <;> omega)
  · rw [if_pos hb] at h
    intro call hcall X hX; refine hX 1000 0 _ _ _ ?_
    repeat' (first | (intro hc) | (refine And.intro ?_ ?_) | (exact absurd nI_0 ‹cmpF 0 (nI 0) 0›) | (exact absurd ‹cmpT 0 (nI 1) 0› nI1_ne) | (exact absurd nI_0 ‹cmpT 1 (nI 0) 0›) | (exact absurd ‹cmpF 1 (nI 1) 0› nI1_ne) | (show wp _ _ _ _ _ _ _ _ _ _ _ _; conv => whnf))
    all_goals first
      | exact h
      | exact absurd (iN_of (show a = Int32.ofNat 0 by assumption) (by decide) (by decide)) hb
      | exact absurd (iN_of (show a = Int32.ofNat 1 by assumption) (by decide) (by decide)) hb
      | exact absurd (iN_of (show a = Int32.ofNat 2 by assumption) (by decide) (by decide)) hb
      | exact absurd (iN_of (show a = Int32.ofNat 3 by assumption) (by decide) (by decide)) hb
      | exact absurd (iN_of (show a = Int32.ofNat 4 by assumption) (by decide) (by decide)) hb
      | exact absurd (iN_of (show a = Int32.ofNat 5 by assumption) (by decide) (by decide)) hb
set_option maxHeartbeats 4000000 in
set_option maxRecDepth 100000 in
theorem c_placeOfSite (hw : WFrouter F r) (hr : repRouter s i F r) (hi : i < 40) (h : Q (some (.inl (optI (firN (copP F r v) (cM F r) 0) (-1)))) s) : wpM L xs codT retT (f + 1) m_X4_placeOfSite [.inr (4, i), .inl v] s Q := by
  have w5 := hw.2.1
  have e0 : s.1 4 i 1 = nI (cM F r) := hr.1.trans hw.1
  intro call hcall X hX; refine hX 1000 0 _ _ _ ?_
  repeat' (first | (intro hc) | (refine And.intro ?_ ?_) | (exact absurd nI_0 ‹cmpF 0 (nI 0) 0›) | (exact absurd ‹cmpT 0 (nI 1) 0› nI1_ne) | (exact absurd nI_0 ‹cmpT 1 (nI 0) 0›) | (exact absurd ‹cmpF 1 (nI 1) 0› nI1_ne) | (show wp _ _ _ _ _ _ _ _ _ _ _ _; conv => whnf))
  simp only [takeL, setL]
  have loop : ∀ j k, k + j = cM F r → Q (some (.inl (optI (firN (copP F r v) j k) (-1)))) s → X 2 [.inr (4, i), .inl v, .inl (nI k)] [] s := by
    clear h
    intro j
    induction j with
    | zero =>
      intro k hk h
      refine hX 1000 2 _ _ _ ?_
      repeat' (first | (intro hc) | (refine And.intro ?_ ?_) | (exact absurd nI_0 ‹cmpF 0 (nI 0) 0›) | (exact absurd ‹cmpT 0 (nI 1) 0› nI1_ne) | (exact absurd nI_0 ‹cmpT 1 (nI 0) 0›) | (exact absurd ‹cmpF 1 (nI 1) 0› nI1_ne) | (show wp _ _ _ _ _ _ _ _ _ _ _ _; conv => whnf))
      all_goals first
        | exact h
        | ((try clear hX hcall); (try clear h); (try simp (disch := omega) only [cmpT, cmpF, bI_eq0, bI_ne0, Classical.not_not, nI_toI, nI_cl, nI_inj, nI_add, nI_mul, nI_subI, takeL, setL, Int32.toInt_zero, Nat.add_zero, setN_now, alen20, alen11, alen12, alen13, alen14, alen15, alen16, alen17, alen18, alen19, (id e0)] at *); omega)
    | succ j ih =>
      intro k hk h
      have ih := ih (k + 1) (by omega)
      have m0 := (hr.2.2.2.2.2.2 k (by omega)).1
      by_cases hm : copP F r v k = true
      · rw [firN_1 hm] at h
        have h1 : s.1 2 (s.2 i k) 2 = v := m0.trans (of_decide_eq_true hm)
        clear ih m0
        refine hX 1000 2 _ _ _ ?_
        repeat' (first | (intro hc) | (refine And.intro ?_ ?_) | (exact absurd nI_0 ‹cmpF 0 (nI 0) 0›) | (exact absurd ‹cmpT 0 (nI 1) 0› nI1_ne) | (exact absurd nI_0 ‹cmpT 1 (nI 0) 0›) | (exact absurd ‹cmpF 1 (nI 1) 0› nI1_ne) | (show wp _ _ _ _ _ _ _ _ _ _ _ _; conv => whnf))
        all_goals first
          | exact h
          | (simp (disch := omega) only [cmpT, nI_cl] at *; contradiction)
          | ((try clear hX hcall); (try clear h); (try simp (disch := omega) only [cmpT, cmpF, bI_eq0, bI_ne0, Classical.not_not, nI_toI, nI_cl, nI_inj, nI_add, nI_mul, nI_subI, takeL, setL, Int32.toInt_zero, Nat.add_zero, setN_now, alen20, alen11, alen12, alen13, alen14, alen15, alen16, alen17, alen18, alen19, (id e0)] at *); omega)
      · rw [firN_0 hm] at h
        have ih := ih h
        have h1 : ¬ s.1 2 (s.2 i k) 2 = v := fun q => hm (decide_eq_true (m0.symm.trans q))
        clear h m0
        refine hX 1000 2 _ _ _ ?_
        repeat' (first | (intro hc) | (refine And.intro ?_ ?_) | (exact absurd nI_0 ‹cmpF 0 (nI 0) 0›) | (exact absurd ‹cmpT 0 (nI 1) 0› nI1_ne) | (exact absurd nI_0 ‹cmpT 1 (nI 0) 0›) | (exact absurd ‹cmpF 1 (nI 1) 0› nI1_ne) | (show wp _ _ _ _ _ _ _ _ _ _ _ _; conv => whnf))
        all_goals first
          | (simp only [takeL, setL, nI_add]; exact ih)
          | (exfalso; clear ih hX hcall; simp (disch := omega) only [cmpF, nI_cl] at *; contradiction)
          | (clear ih; (try clear hX hcall); (try clear h); (try simp (disch := omega) only [cmpT, cmpF, bI_eq0, bI_ne0, Classical.not_not, nI_toI, nI_cl, nI_inj, nI_add, nI_mul, nI_subI, takeL, setL, Int32.toInt_zero, Nat.add_zero, setN_now, alen20, alen11, alen12, alen13, alen14, alen15, alen16, alen17, alen18, alen19, (id e0)] at *); omega)
  exact loop (cM F r) 0 (by omega) h
theorem c_placeOfSiteE {o : Option Nat} (hw : WFrouter F r) (hr : repRouter s i F r) (hi : i < 40) (e : firN (copP F r v) (cM F r) 0 = o) (h : Q (some (.inl (optI o (-1)))) s) : wpM L xs codT retT (f + 1) m_X4_placeOfSite [.inr (4, i), .inl v] s Q := c_placeOfSite hw hr hi (by rw [e]; exact h)
set_option maxHeartbeats 4000000 in
set_option maxRecDepth 100000 in
theorem c_mapsOf (hw : WF F B) (hR : RepW s w F) (hw10 : w < 10) (h : Q (some (.inl (nI (copN F v (cR F))))) s) : wpM L xs codT retT (f + 2) m_X8_mapsOf [.inr (8, w), .inl v] s Q := by
  have r2 := hw.r2
  have e3 : s.1 8 w 5 = nI (cR F) := hR.r1.trans hw.r1
  intro call hcall X hX; refine hX 1000 0 _ _ _ ?_
  repeat' (first | (intro hc) | (refine And.intro ?_ ?_) | (exact absurd nI_0 ‹cmpF 0 (nI 0) 0›) | (exact absurd ‹cmpT 0 (nI 1) 0› nI1_ne) | (exact absurd nI_0 ‹cmpT 1 (nI 0) 0›) | (exact absurd ‹cmpF 1 (nI 1) 0› nI1_ne) | (show wp _ _ _ _ _ _ _ _ _ _ _ _; conv => whnf))
  simp only [takeL, setL]
  have loop : ∀ j, j ≤ cR F → X 4 [.inr (8, w), .inl v, .inl (nI (copN F v j)), .inl (nI j)] [] s := by
    refine loopD (cR F) (fun j hj ih => ?_) ?_
    · clear h
      have wr := hw.router hj
      have rr := hR.router hj
      have ih2 : X 4 [.inr (8, w), .inl v, .inl (nI (copN F v j + cntB (copP F j v) (cM F j))), .inl (nI (j + 1))] [] s := ih
      clear ih
      have w5 := wr.2.1
      rw [cop_cnt wr] at ih2
      cases ho : firN (copP F j v) (cM F j) 0 with
      | none =>
        rw [ho] at ih2
        refine hX 1000 4 _ _ _ ?_
        repeat' (first | (intro hc) | (refine And.intro ?_ ?_) | (exact absurd nI_0 ‹cmpF 0 (nI 0) 0›) | (exact absurd ‹cmpT 0 (nI 1) 0› nI1_ne) | (exact absurd nI_0 ‹cmpT 1 (nI 0) 0›) | (exact absurd ‹cmpF 1 (nI 1) 0› nI1_ne) | (show wp _ _ _ _ _ _ _ _ _ _ _ _; conv => whnf) | (simp (disch := omega) only [nI_cl]) | (simp (disch := omega) only [nI_add, nI_mul, setN_now, setN_put, nI_cl, Nat.add_zero]) | (refine hcall _ _ _ _ ?_; first | (refine c_placeOfSiteE wr rr (by omega) ho ?_) | fail))
        all_goals first
          | (simp only [takeL, setL, nI_add]; exact ih2)
          | (exfalso; exact (by assumption : cmpF 0 (optI none (-1)) (-1)) rfl)
          | (clear ih2; (try clear hX hcall); (try clear h); (try simp (disch := omega) only [cmpT, cmpF, bI_eq0, bI_ne0, Classical.not_not, nI_toI, nI_cl, nI_inj, nI_add, nI_mul, nI_subI, takeL, setL, Int32.toInt_zero, Nat.add_zero, setN_now, alen20, alen11, alen12, alen13, alen14, alen15, alen16, alen17, alen18, alen19, (id e3)] at *); omega)
      | some m =>
        rw [ho] at ih2
        have h1 := firN_some _ _ ho
        have hne : ¬ nI m = -1 := fun q => by
          have := congrArg Int32.toInt q
          rw [nI_toI (by omega)] at this
          have t : (-1 : Int32).toInt = -1 := by decide
          omega
        refine hX 1000 4 _ _ _ ?_
        repeat' (first | (intro hc) | (refine And.intro ?_ ?_) | (exact absurd nI_0 ‹cmpF 0 (nI 0) 0›) | (exact absurd ‹cmpT 0 (nI 1) 0› nI1_ne) | (exact absurd nI_0 ‹cmpT 1 (nI 0) 0›) | (exact absurd ‹cmpF 1 (nI 1) 0› nI1_ne) | (show wp _ _ _ _ _ _ _ _ _ _ _ _; conv => whnf) | (simp (disch := omega) only [nI_cl]) | (simp (disch := omega) only [nI_add, nI_mul, setN_now, setN_put, nI_cl, Nat.add_zero]) | (refine hcall _ _ _ _ ?_; first | (refine c_placeOfSiteE wr rr (by omega) ho ?_) | fail))
        all_goals first
          | (simp only [takeL, setL, nI_add]; exact ih2)
          | (exfalso; exact hne (by assumption : cmpT 0 (optI (some m) (-1)) (-1)))
          | (clear ih2 hne; (try clear hX hcall); (try clear h); (try simp (disch := omega) only [cmpT, cmpF, bI_eq0, bI_ne0, Classical.not_not, nI_toI, nI_cl, nI_inj, nI_add, nI_mul, nI_subI, takeL, setL, Int32.toInt_zero, Nat.add_zero, setN_now, alen20, alen11, alen12, alen13, alen14, alen15, alen16, alen17, alen18, alen19, (id e3)] at *); omega)
    · refine hX 1000 4 _ _ _ ?_
      repeat' (first | (intro hc) | (refine And.intro ?_ ?_) | (exact absurd nI_0 ‹cmpF 0 (nI 0) 0›) | (exact absurd ‹cmpT 0 (nI 1) 0› nI1_ne) | (exact absurd nI_0 ‹cmpT 1 (nI 0) 0›) | (exact absurd ‹cmpF 1 (nI 1) 0› nI1_ne) | (show wp _ _ _ _ _ _ _ _ _ _ _ _; conv => whnf))
      all_goals first
        | exact h
        | ((try clear hX hcall); (try clear h); (try simp (disch := omega) only [cmpT, cmpF, bI_eq0, bI_ne0, Classical.not_not, nI_toI, nI_cl, nI_inj, nI_add, nI_mul, nI_subI, takeL, setL, Int32.toInt_zero, Nat.add_zero, setN_now, alen20, alen11, alen12, alen13, alen14, alen15, alen16, alen17, alen18, alen19, (id e3)] at *); omega)
  exact loop 0 (by omega)
set_option maxHeartbeats 4000000 in
set_option maxRecDepth 100000 in
theorem c_sumOver (hw : WF F B) (hR : RepW s w F) (hk : k < 6) (h : Q (some (.inl (sumN F k (cR F)))) s) : wpM L xs codT retT (f + 2) m_X8_sumOverRouters [.inr (8, w), .inl (nI k)] s Q := by
  have r2 := hw.r2
  have e3 : s.1 8 w 5 = nI (cR F) := hR.r1.trans hw.r1
  have hk2 := iN_k hk (by omega)
  have ek : nn (nI k) = k := nI_cl (by omega)
  intro call hcall X hX; refine hX 1000 0 _ _ _ ?_
  repeat' (first | (intro hc) | (refine And.intro ?_ ?_) | (exact absurd nI_0 ‹cmpF 0 (nI 0) 0›) | (exact absurd ‹cmpT 0 (nI 1) 0› nI1_ne) | (exact absurd nI_0 ‹cmpT 1 (nI 0) 0›) | (exact absurd ‹cmpF 1 (nI 1) 0› nI1_ne) | (show wp _ _ _ _ _ _ _ _ _ _ _ _; conv => whnf))
  simp only [takeL, setL]
  have loop : ∀ j, j ≤ cR F → X 4 [.inr (8, w), .inl (nI k), .inl (sumN F k j), .inl (nI j)] [] s := by
    refine loopD (cR F) (fun j hj ih => ?_) ?_
    · clear h
      have rr := hR.router hj
      have ih2 : X 4 [.inr (8, w), .inl (nI k), .inl (sumN F k j + (if ¬ iN (nI k) 6 then -2 else F (165 + 6 * j + nn (nI k)))), .inl (nI (j + 1))] [] s := by rw [if_neg (fun q => q hk2), ek]; exact ih
      clear ih
      refine hX 1000 4 _ _ _ ?_
      repeat' (first | (intro hc) | (refine And.intro ?_ ?_) | (exact absurd nI_0 ‹cmpF 0 (nI 0) 0›) | (exact absurd ‹cmpT 0 (nI 1) 0› nI1_ne) | (exact absurd nI_0 ‹cmpT 1 (nI 0) 0›) | (exact absurd ‹cmpF 1 (nI 1) 0› nI1_ne) | (show wp _ _ _ _ _ _ _ _ _ _ _ _; conv => whnf) | (simp (disch := omega) only [nI_cl]) | (simp (disch := omega) only [nI_add, nI_mul, setN_now, setN_put, nI_cl, Nat.add_zero]) | (refine hcall _ _ _ _ ?_; first | (refine c_rProp rr ?_) | fail))
      all_goals first
        | (simp only [takeL, setL, nI_add]; exact ih2)
        | (clear ih2 hk2; (try clear hX hcall); (try clear h); (try simp (disch := omega) only [cmpT, cmpF, bI_eq0, bI_ne0, Classical.not_not, nI_toI, nI_cl, nI_inj, nI_add, nI_mul, nI_subI, takeL, setL, Int32.toInt_zero, Nat.add_zero, setN_now, alen20, alen11, alen12, alen13, alen14, alen15, alen16, alen17, alen18, alen19, (id e3)] at *); omega)
    · refine hX 1000 4 _ _ _ ?_
      repeat' (first | (intro hc) | (refine And.intro ?_ ?_) | (exact absurd nI_0 ‹cmpF 0 (nI 0) 0›) | (exact absurd ‹cmpT 0 (nI 1) 0› nI1_ne) | (exact absurd nI_0 ‹cmpT 1 (nI 0) 0›) | (exact absurd ‹cmpF 1 (nI 1) 0› nI1_ne) | (show wp _ _ _ _ _ _ _ _ _ _ _ _; conv => whnf))
      all_goals first
        | exact h
        | (clear hk2; (try clear hX hcall); (try clear h); (try simp (disch := omega) only [cmpT, cmpF, bI_eq0, bI_ne0, Classical.not_not, nI_toI, nI_cl, nI_inj, nI_add, nI_mul, nI_subI, takeL, setL, Int32.toInt_zero, Nat.add_zero, setN_now, alen20, alen11, alen12, alen13, alen14, alen15, alen16, alen17, alen18, alen19, (id e3)] at *); omega)
  exact loop 0 (by omega)
end CLS5
