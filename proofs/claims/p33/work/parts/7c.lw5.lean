/-! THE LAW'S CHECKS: areEnding -/
section LW5
variable {L : Nat} {xs : Nat → Int32} {f i n B k r m j p c l : Nat} {x y v a b w : Int32} {s s' : St} {F G : Fm} {Q : Option MV → St → Prop}
theorem g_nxt (hw : WF F B) (hR : RepW s 0 F) (e : nextA F v = w) (h : Q (some (.inl w)) s) : wpM L xs codT retT (f + 4) m_X9_endingNext [.inr (9, 0), .inl v] s Q := c_endingNext hw hR (by rw [e]; exact h)
theorem hld_s (k : Nat) : cntB (hldP F) (k + 1) = cntB (hldP F) k + (if hldF F k then 1 else 0) := by
  show cntB (hldP F) k + (if hldP F k = true then 1 else 0) = _
  by_cases e : hldF F k
  · have hb : hldP F k = true := decide_eq_true e
    rw [if_pos e, if_pos hb]
  · have hb : ¬ hldP F k = true := fun q => e (of_decide_eq_true q)
    rw [if_neg e, if_neg hb]
theorem g_tot0 (hw : WF F B) (hR : RepW s 0 F) (h : Q (some (.inl (F 0))) s) : wpM L xs codT retT (f + 6) m_X9_total [.inr (9, 0), .inl (nI 0)] s Q := g_tot hw hR (by omega) h
theorem g_tot2 (hw : WF F B) (hR : RepW s 0 F) (h : Q (some (.inl (nI (cT F)))) s) : wpM L xs codT retT (f + 6) m_X9_total [.inr (9, 0), .inl (nI 2)] s Q := g_tot hw hR (by omega) (by rw [show totW F 2 = nI (cT F) from hw.t1]; exact h)
set_option maxHeartbeats 4000000 in
set_option maxRecDepth 100000 in
theorem l_areEnding (hw : WF F B) (hR : RepW s 0 F) (h : Q (some (.inl (nI 1))) s) : wpM L xs codT retT (f + 7) m_L_areEnding [.inr (9, 0)] s Q := by
  have h8 := hw.t2
  have e2 : totW F 2 = nI (cT F) := hw.t1
  have e0 : totW F 0 = F 0 := rfl
  have hH : cntB (hldP F) (cT F) ≤ cT F := cnt_n _
  intro call hcall X hX; refine hX 1000 0 _ _ _ ?_
  repeat' (first | (intro hc) | (refine And.intro ?_ ?_) | (exact absurd nI_0 ‹cmpF 0 (nI 0) 0›) | (exact absurd ‹cmpT 0 (nI 1) 0› nI1_ne) | (exact absurd nI_0 ‹cmpT 1 (nI 0) 0›) | (exact absurd ‹cmpF 1 (nI 1) 0› nI1_ne) | (show wp _ _ _ _ _ _ _ _ _ _ _ _; conv => whnf))
  simp only [takeL, setL]
  have loop2 : ∀ p, p ≤ cntB (hldP F) (cT F) → X 59 [.inr (9, 0), .inl (nI (cntB (hldP F) (cT F))), .inl (nI 1), .inl (nI p)] [] s := by
    refine loopD _ (fun p hp ih => ?_) ?_
    · clear h
      obtain ⟨m, hm, n1, hld, hrk⟩ := next_some hw hp
      unfold hldF at hld
      by_cases p0 : p = 0
      · subst p0
        refine hX 1000 59 _ _ _ ?_
        repeat' (first | (intro hc) | (refine And.intro ?_ ?_) | (exact absurd nI_0 ‹cmpF 0 (nI 0) 0›) | (exact absurd ‹cmpT 0 (nI 1) 0› nI1_ne) | (exact absurd nI_0 ‹cmpT 1 (nI 0) 0›) | (exact absurd ‹cmpF 1 (nI 1) 0› nI1_ne) | (show wp _ _ _ _ _ _ _ _ _ _ _ _; conv => whnf) | (simp (disch := omega) only [nI_add, nI_mul, setN_now, setN_put, nI_cl, Nat.add_zero]) | (refine hcall _ _ _ _ ?_; first | (refine g_nxt hw hR n1 ?_) | (refine g_sit hw hR rfl hm (by omega) ?_) | (refine g_tot0 hw hR ?_) | fail))
        all_goals first
          | (simp only [takeL, setL, nI_add]; exact ih)
          | (clear ih; (try clear hX hcall); (try clear h); (try simp (disch := omega) only [cmpT, cmpF, bI_eq0, bI_ne0, Classical.not_not, nI_toI, nI_cl, nI_inj, nI_add, nI_mul, nI_subI, takeL, setL, Int32.toInt_zero, Nat.add_zero, setN_now, alen20, alen11, alen12, alen13, alen14, alen15, alen16, alen17, alen18, alen19, (id e2)] at *); omega)
      · obtain ⟨l, hl, n2, hld2, hrk2⟩ := next_some (p := p - 1) hw (by omega)
        have n3 : nextA F (nI p - nI 1) = nI l := by rw [nI_sub (by omega) (by omega)]; exact n2
        have hord := next_ord hl hm hld2 hld (by omega)
        have hp0 : ¬ nI p = 0 := fun e => by
          have e : nI p = nI 0 := e
          rw [nI_inj (by omega) (by omega)] at e
          omega
        refine hX 1000 59 _ _ _ ?_
        repeat' (first | (intro hc) | (refine And.intro ?_ ?_) | (exact absurd nI_0 ‹cmpF 0 (nI 0) 0›) | (exact absurd ‹cmpT 0 (nI 1) 0› nI1_ne) | (exact absurd nI_0 ‹cmpT 1 (nI 0) 0›) | (exact absurd ‹cmpF 1 (nI 1) 0› nI1_ne) | (show wp _ _ _ _ _ _ _ _ _ _ _ _; conv => whnf) | (simp (disch := omega) only [nI_add, nI_mul, setN_now, setN_put, nI_cl, Nat.add_zero]) | (refine hcall _ _ _ _ ?_; first | (refine g_nxt hw hR n1 ?_) | (refine g_nxt hw hR n3 ?_) | (refine g_sit hw hR rfl hm (by omega) ?_) | (refine g_sit hw hR rfl hl (by omega) ?_) | (refine g_tot0 hw hR ?_) | fail))
        all_goals first
          | (simp only [takeL, setL, nI_add]; exact ih)
          | exact absurd (by assumption) hp0
          | (exfalso; clear ih; rcases hord with q | ⟨q, q2⟩ <;> first
              | (rw [q] at *; (try clear hX hcall); (try clear h); (try simp (disch := omega) only [cmpT, cmpF, bI_eq0, bI_ne0, Classical.not_not, nI_toI, nI_cl, nI_inj, nI_add, nI_mul, nI_subI, takeL, setL, Int32.toInt_zero, Nat.add_zero, setN_now, alen20, alen11, alen12, alen13, alen14, alen15, alen16, alen17, alen18, alen19, (id e2)] at *); omega)
              | ((try clear hX hcall); (try clear h); (try simp (disch := omega) only [cmpT, cmpF, bI_eq0, bI_ne0, Classical.not_not, nI_toI, nI_cl, nI_inj, nI_add, nI_mul, nI_subI, takeL, setL, Int32.toInt_zero, Nat.add_zero, setN_now, alen20, alen11, alen12, alen13, alen14, alen15, alen16, alen17, alen18, alen19, (id e2)] at *); omega)
              | (exact absurd q (by assumption)))
    · refine hX 1000 59 _ _ _ ?_
      repeat' (first | (intro hc) | (refine And.intro ?_ ?_) | (exact absurd nI_0 ‹cmpF 0 (nI 0) 0›) | (exact absurd ‹cmpT 0 (nI 1) 0› nI1_ne) | (exact absurd nI_0 ‹cmpT 1 (nI 0) 0›) | (exact absurd ‹cmpF 1 (nI 1) 0› nI1_ne) | (show wp _ _ _ _ _ _ _ _ _ _ _ _; conv => whnf))
      all_goals first
        | exact h
        | exact nI_1b
        | (clear h; (try clear hX hcall); (try clear h); (try simp (disch := omega) only [cmpT, cmpF, bI_eq0, bI_ne0, Classical.not_not, nI_toI, nI_cl, nI_inj, nI_add, nI_mul, nI_subI, takeL, setL, Int32.toInt_zero, Nat.add_zero, setN_now, alen20, alen11, alen12, alen13, alen14, alen15, alen16, alen17, alen18, alen19, (id e2)] at *); omega)
  have loop1 : ∀ k, k ≤ cT F → X 4 [.inr (9, 0), .inl (nI (cntB (hldP F) k)), .inl (nI k)] [] s := by
    refine loopD (cT F) (fun k hk ih => ?_) ?_
    · clear h loop2
      rw [hld_s] at ih
      refine hX 1000 4 _ _ _ ?_
      repeat' (first | (intro hc) | (refine And.intro ?_ ?_) | (exact absurd nI_0 ‹cmpF 0 (nI 0) 0›) | (exact absurd ‹cmpT 0 (nI 1) 0› nI1_ne) | (exact absurd nI_0 ‹cmpT 1 (nI 0) 0›) | (exact absurd ‹cmpF 1 (nI 1) 0› nI1_ne) | (show wp _ _ _ _ _ _ _ _ _ _ _ _; conv => whnf) | (simp (disch := omega) only [nI_add, nI_mul, setN_now, setN_put, nI_cl, Nat.add_zero]) | (refine hcall _ _ _ _ ?_; first | (refine g_tot0 hw hR ?_) | (refine g_tot2 hw hR ?_) | (refine g_sit hw hR rfl hk (by omega) ?_) | fail))
      all_goals first
        | (simp only [takeL, setL, nI_add]; rw [if_pos (by have z := ‹cmpF 5 (F (29 + 17 * k + 4)) (F 0)›; exact z)] at ih; exact ih)
        | (simp only [takeL, setL, nI_add]; rw [if_neg (by have z := ‹cmpT 5 (F (29 + 17 * k + 4)) (F 0)›; simp only [cmpT] at z; unfold hldF; omega)] at ih; exact ih)
        | (clear ih; (try clear hX hcall); (try clear h); (try simp (disch := omega) only [cmpT, cmpF, bI_eq0, bI_ne0, Classical.not_not, nI_toI, nI_cl, nI_inj, nI_add, nI_mul, nI_subI, takeL, setL, Int32.toInt_zero, Nat.add_zero, setN_now, alen20, alen11, alen12, alen13, alen14, alen15, alen16, alen17, alen18, alen19, (id e2)] at *); omega)
    · have nn0 := next_none hw
      refine hX 1000 4 _ _ _ ?_
      repeat' (first | (intro hc) | (refine And.intro ?_ ?_) | (exact absurd nI_0 ‹cmpF 0 (nI 0) 0›) | (exact absurd ‹cmpT 0 (nI 1) 0› nI1_ne) | (exact absurd nI_0 ‹cmpT 1 (nI 0) 0›) | (exact absurd ‹cmpF 1 (nI 1) 0› nI1_ne) | (show wp _ _ _ _ _ _ _ _ _ _ _ _; conv => whnf) | (simp (disch := omega) only [nI_add, nI_mul, setN_now, setN_put, nI_cl, Nat.add_zero]) | (refine hcall _ _ _ _ ?_; first | (refine g_tot2 hw hR ?_) | (refine g_nxt hw hR nn0 ?_) | fail))
      all_goals first
        | (simp only [takeL, setL, nI_add]; exact loop2 0 (by omega))
        | exact absurd rfl (by assumption)
        | (clear h; (try clear hX hcall); (try clear h); (try simp (disch := omega) only [cmpT, cmpF, bI_eq0, bI_ne0, Classical.not_not, nI_toI, nI_cl, nI_inj, nI_add, nI_mul, nI_subI, takeL, setL, Int32.toInt_zero, Nat.add_zero, setN_now, alen20, alen11, alen12, alen13, alen14, alen15, alen16, alen17, alen18, alen19, (id e2)] at *); omega)
  have := loop1 0 (by omega)
  exact this
end LW5
