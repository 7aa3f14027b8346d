/-! THE REFERENCE: server, share, map -/
section REF17
variable {L : Nat} {xs : Nat → Int32} {f i k r q c j n B b w : Nat} {x y v a z l name flow place : Int32} {s : St} {F G F' : Fm} {Q : Option MV → St → Prop} {p : Nat → Bool}
theorem ofN (m : Nat) : Int32.ofNat m = nI m := by unfold nI; rfl
theorem iN_of {a : Int32} {j n : Nat} (hq : a = Int32.ofNat j) (hj : j < n) (hn : n < 1000) : iN a n := by
  rw [hq, ofN]
  exact iN_k hj hn
set_option maxHeartbeats 4000000 in
set_option maxRecDepth 100000 in
theorem r_server (hw : WF F B) (h : Q (some (.inl (serverA F v a))) (setN s F)) : wpM L xs codT retT (f + 6) m_X10_server [.inr (10, 0), .inl v, .inl a] (setN s F) Q := by
  have s2 := hw.s2
  by_cases hv : iN v (cS F)
  · obtain ⟨k, hp, hpl⟩ := iN_nn hv (by omega)
    subst hp
    have en : nn (nI k) = k := nI_cl (by omega)
    by_cases hb : iN a 6
    · obtain ⟨j, hq, hql⟩ := iN_nn hb (by omega)
      subst hq
      have ej : nn (nI j) = j := nI_cl (by omega)
      have e : serverA F (nI k) (nI j) = if (nI j).toInt < 3 then F (5 + 3 * k + j) else if (nI j).toInt = 3 then nI (cntB (childP F (nI k)) (cS F)) else if (nI j).toInt = 4 then nI (wayF F k) else nI (cntB (homeP F (nI k)) (cT F)) := by unfold serverA; rw [if_neg (fun q => q hv), if_neg (fun q => q hb), en, ej]
      rw [e, nI_toI (by omega)] at h
      have hj : j = 0 ∨ j = 1 ∨ j = 2 ∨ j = 3 ∨ j = 4 ∨ j = 5 := by omega
      rcases hj with hj | hj | hj | hj | hj | hj <;> subst hj <;> (first | rw [if_pos (by omega)] at h | rw [if_neg (by omega), if_pos (by omega)] at h | rw [if_neg (by omega), if_neg (by omega), if_pos (by omega)] at h | rw [if_neg (by omega), if_neg (by omega), if_neg (by omega)] at h)
      all_goals
        intro call hcall X hX; refine hX 1000 0 _ _ _ ?_
        repeat' (first | (intro hc) | (refine And.intro ?_ ?_) | (exact absurd nI_0 ‹cmpF 0 (nI 0) 0›) | (exact absurd ‹cmpT 0 (nI 1) 0› nI1_ne) | (exact absurd nI_0 ‹cmpT 1 (nI 0) 0›) | (exact absurd ‹cmpF 1 (nI 1) 0› nI1_ne) | (show wp _ _ _ _ _ _ _ _ _ _ _ _; conv => whnf) | (simp (disch := omega) only [nI_add, nI_mul, setN_now, setN_put, nI_cl, Nat.add_zero]) | (refine hcall _ _ _ _ ?_; first | (refine r_isServer hw.s1 (by omega) ?_) | (refine r_wayTo hw hpl ?_) | (refine r_children hw ?_) | (refine r_sitesOf hw ?_) | fail))
        all_goals first
          | exact h
          | ((try clear hX hcall); (try clear h); simp (disch := omega) only [cmpT, cmpF, bI_eq0, bI_ne0, Classical.not_not, nI_toI, setN_now, nI_cl, alen20, Int32.toInt_zero, hw.s1, hw.t1, hw.r1, nI_add, nI_mul, takeL, setL, setN_put] at *; (try simp (disch := omega) only [ofN, nI_inj] at *); omega)
          | ((try clear hX hcall); (try clear h); simp (disch := omega) only [cmpT, cmpF, bI_eq0, bI_ne0, Classical.not_not, nI_toI, setN_now, nI_cl, alen20, Int32.toInt_zero, hw.s1, hw.t1, hw.r1, nI_add, nI_mul, takeL, setL, setN_put] at *; (try simp (disch := omega) only [ofN, nI_inj] at *); contradiction)
    · have e : serverA F (nI k) a = -2 := by unfold serverA; rw [if_neg (fun q => q hv), if_pos hb]
      rw [e] at h
      intro call hcall X hX; refine hX 1000 0 _ _ _ ?_
      repeat' (first | (intro hc) | (refine And.intro ?_ ?_) | (exact absurd nI_0 ‹cmpF 0 (nI 0) 0›) | (exact absurd ‹cmpT 0 (nI 1) 0› nI1_ne) | (exact absurd nI_0 ‹cmpT 1 (nI 0) 0›) | (exact absurd ‹cmpF 1 (nI 1) 0› nI1_ne) | (show wp _ _ _ _ _ _ _ _ _ _ _ _; conv => whnf) | (simp (disch := omega) only [nI_add, nI_mul, setN_now, setN_put, nI_cl, Nat.add_zero]) | (refine hcall _ _ _ _ ?_; first | (refine r_isServer hw.s1 (by omega) ?_) | (refine r_wayTo hw hpl ?_) | (refine r_children hw ?_) | (refine r_sitesOf hw ?_) | fail))
      all_goals first
        | exact h
        | ((try clear hX hcall); (try clear h); simp (disch := omega) only [cmpT, cmpF, bI_eq0, bI_ne0, Classical.not_not, nI_toI, setN_now, nI_cl, alen20, Int32.toInt_zero, hw.s1, hw.t1, hw.r1, nI_add, nI_mul, takeL, setL, setN_put] at *; omega)
        | exact absurd (iN_of (show a = Int32.ofNat 0 by assumption) (by decide) (by decide)) hb
        | exact absurd (iN_of (show a = Int32.ofNat 1 by assumption) (by decide) (by decide)) hb
        | exact absurd (iN_of (show a = Int32.ofNat 2 by assumption) (by decide) (by decide)) hb
        | exact absurd (iN_of (show a = Int32.ofNat 3 by assumption) (by decide) (by decide)) hb
        | exact absurd (iN_of (show a = Int32.ofNat 4 by assumption) (by decide) (by decide)) hb
        | exact absurd (iN_of (show a = Int32.ofNat 5 by assumption) (by decide) (by decide)) hb
  · have e : serverA F v a = -1 := by unfold serverA; rw [if_pos hv]
    rw [e] at h
    intro call hcall X hX; refine hX 1000 0 _ _ _ ?_
    repeat' (first | (intro hc) | (refine And.intro ?_ ?_) | (exact absurd nI_0 ‹cmpF 0 (nI 0) 0›) | (exact absurd ‹cmpT 0 (nI 1) 0› nI1_ne) | (exact absurd nI_0 ‹cmpT 1 (nI 0) 0›) | (exact absurd ‹cmpF 1 (nI 1) 0› nI1_ne) | (show wp _ _ _ _ _ _ _ _ _ _ _ _; conv => whnf) | (simp (disch := omega) only [nI_add, nI_mul, setN_now, setN_put, nI_cl, Nat.add_zero]) | (refine hcall _ _ _ _ ?_; first | (refine r_isServer hw.s1 (by omega) ?_) | fail))
    all_goals first
      | exact h
      | ((try clear hX hcall); (try clear h); simp (disch := omega) only [cmpT, cmpF, bI_eq0, bI_ne0, Classical.not_not, nI_toI, setN_now, nI_cl, alen20, Int32.toInt_zero, hw.s1, hw.t1, hw.r1, nI_add, nI_mul, takeL, setL, setN_put] at *; omega)
end REF17
