/-! THE REFERENCE: map -/
section REF19
variable {L : Nat} {xs : Nat → Int32} {f i k r q c j n B b w m : Nat} {x y v a z l name flow place : Int32} {s : St} {F G F' : Fm} {Q : Option MV → St → Prop}
set_option maxHeartbeats 4000000 in
set_option maxRecDepth 100000 in
theorem r_map (hw : WF F B) (h : Q (some (.inl (mapA F v x a))) (setN s F)) : wpM L xs codT retT (f + 3) m_X10_map [.inr (10, 0), .inl v, .inl x, .inl a] (setN s F) Q := by
  have r2 := hw.r2
  by_cases hv : iN v (cR F)
  · obtain ⟨r, hp, hpl⟩ := iN_nn hv (by omega)
    subst hp
    have en : nn (nI r) = r := nI_cl (by omega)
    have wr := hw.router hpl
    have wr1 := wr.1
    have wr5 := wr.2.1
    by_cases hx : iN x (cM F r)
    · obtain ⟨q, hp, hql⟩ := iN_nn hx (by omega)
      subst hp
      have eq : nn (nI q) = q := nI_cl (by omega)
      have mq := mA_eq r q
      by_cases hb : iN a 5
      · obtain ⟨j, hp, hjl⟩ := iN_nn hb (by omega)
        subst hp
        have ej : nn (nI j) = j := nI_cl (by omega)
        have e : mapA F (nI r) (nI q) (nI j) = if (nI j).toInt < 4 then F (mA r q + j) else if (F 0).toInt < (F (mA r q + 2)).toInt then nI 1 else nI 0 := by
          unfold mapA
          rw [en, if_neg (fun t => t ⟨hv, hx⟩), if_neg (fun t => t hb), eq, ej]
        rw [e, nI_toI (by omega)] at h
        by_cases h4 : (j : Int) < 4
        · rw [if_pos h4] at h
          intro call hcall X hX; refine hX 1000 0 _ _ _ ?_
          repeat' (first | (intro hc) | (refine And.intro ?_ ?_) | (exact absurd nI_0 ‹cmpF 0 (nI 0) 0›) | (exact absurd ‹cmpT 0 (nI 1) 0› nI1_ne) | (exact absurd nI_0 ‹cmpT 1 (nI 0) 0›) | (exact absurd ‹cmpF 1 (nI 1) 0› nI1_ne) | (show wp _ _ _ _ _ _ _ _ _ _ _ _; conv => whnf) | (simp (disch := omega) only [nI_add, nI_mul, setN_now, setN_put, nI_cl, Nat.add_zero]) | (refine hcall _ _ _ _ ?_; first | (refine r_isRouter hw.r1 (by omega) ?_) | (refine r_mapsOf (by omega) ?_) | (refine r_isIn ?_) | (refine r_ofMap (by omega) ?_) | fail))
          all_goals first
            | exact h
            | (clear hX hcall h; simp (disch := omega) only [cmpT, cmpF, bI_eq0, bI_ne0, Classical.not_not, nI_toI, wr1, nI_subI, setN_now, nI_cl, alen20] at *; first | omega | contradiction)
        · rw [if_neg h4] at h
          by_cases ht : (F 0).toInt < (F (mA r q + 2)).toInt
          · rw [if_pos ht] at h
            intro call hcall X hX; refine hX 1000 0 _ _ _ ?_
            repeat' (first | (intro hc) | (refine And.intro ?_ ?_) | (exact absurd nI_0 ‹cmpF 0 (nI 0) 0›) | (exact absurd ‹cmpT 0 (nI 1) 0› nI1_ne) | (exact absurd nI_0 ‹cmpT 1 (nI 0) 0›) | (exact absurd ‹cmpF 1 (nI 1) 0› nI1_ne) | (show wp _ _ _ _ _ _ _ _ _ _ _ _; conv => whnf) | (simp (disch := omega) only [nI_add, nI_mul, setN_now, setN_put, nI_cl, Nat.add_zero]) | (refine hcall _ _ _ _ ?_; first | (refine r_isRouter hw.r1 (by omega) ?_) | (refine r_mapsOf (by omega) ?_) | (refine r_isIn ?_) | (refine r_ofMap (by omega) ?_) | fail))
            all_goals first
              | exact h
              | (clear hX hcall h; simp (disch := omega) only [cmpT, cmpF, bI_eq0, bI_ne0, Classical.not_not, nI_toI, wr1, nI_subI, setN_now, nI_cl, alen20] at *; first | omega | contradiction)
          · rw [if_neg ht] at h
            intro call hcall X hX; refine hX 1000 0 _ _ _ ?_
            repeat' (first | (intro hc) | (refine And.intro ?_ ?_) | (exact absurd nI_0 ‹cmpF 0 (nI 0) 0›) | (exact absurd ‹cmpT 0 (nI 1) 0› nI1_ne) | (exact absurd nI_0 ‹cmpT 1 (nI 0) 0›) | (exact absurd ‹cmpF 1 (nI 1) 0› nI1_ne) | (show wp _ _ _ _ _ _ _ _ _ _ _ _; conv => whnf) | (simp (disch := omega) only [nI_add, nI_mul, setN_now, setN_put, nI_cl, Nat.add_zero]) | (refine hcall _ _ _ _ ?_; first | (refine r_isRouter hw.r1 (by omega) ?_) | (refine r_mapsOf (by omega) ?_) | (refine r_isIn ?_) | (refine r_ofMap (by omega) ?_) | fail))
            all_goals first
              | exact h
              | (clear hX hcall h; simp (disch := omega) only [cmpT, cmpF, bI_eq0, bI_ne0, Classical.not_not, nI_toI, wr1, nI_subI, setN_now, nI_cl, alen20] at *; first | omega | contradiction)
      · have e : mapA F (nI r) (nI q) a = -2 := by
          unfold mapA
          rw [en, if_neg (fun t => t ⟨hv, hx⟩), if_pos hb]
        rw [e] at h
        intro call hcall X hX; refine hX 1000 0 _ _ _ ?_
        repeat' (first | (intro hc) | (refine And.intro ?_ ?_) | (exact absurd nI_0 ‹cmpF 0 (nI 0) 0›) | (exact absurd ‹cmpT 0 (nI 1) 0› nI1_ne) | (exact absurd nI_0 ‹cmpT 1 (nI 0) 0›) | (exact absurd ‹cmpF 1 (nI 1) 0› nI1_ne) | (show wp _ _ _ _ _ _ _ _ _ _ _ _; conv => whnf) | (simp (disch := omega) only [nI_add, nI_mul, setN_now, setN_put, nI_cl, Nat.add_zero]) | (refine hcall _ _ _ _ ?_; first | (refine r_isRouter hw.r1 (by omega) ?_) | (refine r_mapsOf (by omega) ?_) | (refine r_isIn ?_) | fail))
        all_goals first
          | exact h
          | (clear hX hcall h; simp (disch := omega) only [cmpT, cmpF, bI_eq0, bI_ne0, Classical.not_not, nI_toI, wr1, nI_subI, setN_now, nI_cl, alen20] at *; first | omega | contradiction)
    · have e : mapA F (nI r) x a = -1 := by
        unfold mapA
        rw [en, if_pos (fun t => hx t.2)]
      rw [e] at h
      intro call hcall X hX; refine hX 1000 0 _ _ _ ?_
      repeat' (first | (intro hc) | (refine And.intro ?_ ?_) | (exact absurd nI_0 ‹cmpF 0 (nI 0) 0›) | (exact absurd ‹cmpT 0 (nI 1) 0› nI1_ne) | (exact absurd nI_0 ‹cmpT 1 (nI 0) 0›) | (exact absurd ‹cmpF 1 (nI 1) 0› nI1_ne) | (show wp _ _ _ _ _ _ _ _ _ _ _ _; conv => whnf) | (simp (disch := omega) only [nI_add, nI_mul, setN_now, setN_put, nI_cl, Nat.add_zero]) | (refine hcall _ _ _ _ ?_; first | (refine r_isRouter hw.r1 (by omega) ?_) | (refine r_mapsOf (by omega) ?_) | (refine r_isIn ?_) | fail))
      all_goals first
        | exact h
        | (clear hX hcall h; simp (disch := omega) only [cmpT, cmpF, bI_eq0, bI_ne0, Classical.not_not, nI_toI, wr1, nI_subI, setN_now, nI_cl, alen20] at *; first | omega | contradiction)
  · have e : mapA F v x a = -1 := by unfold mapA; rw [if_pos (fun t => hv t.1)]
    rw [e] at h
    intro call hcall X hX; refine hX 1000 0 _ _ _ ?_
    repeat' (first | (intro hc) | (refine And.intro ?_ ?_) | (exact absurd nI_0 ‹cmpF 0 (nI 0) 0›) | (exact absurd ‹cmpT 0 (nI 1) 0› nI1_ne) | (exact absurd nI_0 ‹cmpT 1 (nI 0) 0›) | (exact absurd ‹cmpF 1 (nI 1) 0› nI1_ne) | (show wp _ _ _ _ _ _ _ _ _ _ _ _; conv => whnf) | (simp (disch := omega) only [nI_add, nI_mul, setN_now, setN_put, nI_cl, Nat.add_zero]) | (refine hcall _ _ _ _ ?_; first | (refine r_isRouter hw.r1 (by omega) ?_) | fail))
    all_goals first
      | exact h
      | ((try clear hX hcall); (try clear h); simp (disch := omega) only [cmpT, cmpF, bI_eq0, bI_ne0, Classical.not_not, nI_toI, setN_now, nI_cl, alen20, Int32.toInt_zero, hw.s1, hw.t1, hw.r1, nI_add, nI_mul, takeL, setL, setN_put] at *; omega)
end REF19
