/-! THE REFERENCE: totals, acts done, run -/
def doF (F : Fm) (t a b c : Nat) : Int32 × Fm := if t = 115 then letterF F (nI a) (nI b) (nI c) else if t = 114 then regF F (nI a) else if t = 117 then unregF F (nI a) else passF F (nI a)
def runF (T : Nat → Nat) (n : Nat) : Nat → Nat → Fm → Nat → Nat × Fm
  | 0, _, F, c => (c, F)
  | k + 1, p, F, c => if p < n then (match actR T n p with
    | .inl _ => (c, F)
    | .inr ((t, a, b, d), q) => if 0 ≤ (doF F t a b d).1.toInt then runF T n k q (doF F t a b d).2 (c + 1) else (c, F)) else (c, F)
section REF31
variable {L : Nat} {xs : Nat → Int32} {f i k r p q c j n B b w m lo hi d t : Nat} {x y v z l name flow place : Int32} {s : St} {F G F' u : Fm} {T : Nat → Nat} {Q : Option MV → St → Prop}
set_option maxHeartbeats 4000000 in
set_option maxRecDepth 100000 in
theorem r_total (hw : WF F B) (h11 : s.1 10 0 3 = nI m) (h12 : s.1 10 0 5 = nI n) (h : Q (some (.inl (totA F (nI m) (nI n) v))) (setN s F)) : wpM L xs codT retT (f + 7) m_X10_total [.inr (10, 0), .inl v] (setN s F) Q := by
  have e11 : (setN s F).1 10 0 3 = nI m := (setN_o (by omega)).trans h11
  have e12 : (setN s F).1 10 0 5 = nI n := (setN_o (by omega)).trans h12
  by_cases hb : iN v 14
  · obtain ⟨j, hq, hql⟩ := iN_nn hb (by omega)
    subst hq
    have hj : j = 0 ∨ j = 1 ∨ j = 2 ∨ j = 3 ∨ j = 4 ∨ j = 5 ∨ j = 6 ∨ j = 7 ∨ j = 8 ∨ j = 9 ∨ j = 10 ∨ j = 11 ∨ j = 12 ∨ j = 13 := by omega
    have ht : totA F (nI m) (nI n) (nI j) = if j = 11 then nI m else if j = 12 then nI n else totW F j := by
      unfold totA
      by_cases q1 : j = 11
      · subst q1; rw [if_pos rfl, if_pos rfl]
      · by_cases q2 : j = 12
        · subst q2; rw [if_neg (nI_ne (by omega) (by omega) (by omega)), if_pos rfl, if_neg (by omega), if_pos rfl]
        · rw [if_neg (nI_ne (by omega) (by omega) q1), if_neg (nI_ne (by omega) (by omega) q2), if_pos hb, if_neg q1, if_neg q2, show nn (nI j) = j from nI_cl (by omega)]
    rw [ht] at h
    clear ht
    rcases hj with hj | hj | hj | hj | hj | hj | hj | hj | hj | hj | hj | hj | hj | hj <;> subst hj
    all_goals
      intro call hcall X hX; refine hX 1000 0 _ _ _ ?_
      repeat' (first | (intro hc) | (refine And.intro ?_ ?_) | (exact absurd nI_0 ‹cmpF 0 (nI 0) 0›) | (exact absurd ‹cmpT 0 (nI 1) 0› nI1_ne) | (exact absurd nI_0 ‹cmpT 1 (nI 0) 0›) | (exact absurd ‹cmpF 1 (nI 1) 0› nI1_ne) | (show wp _ _ _ _ _ _ _ _ _ _ _ _; conv => whnf) | (simp (disch := omega) only [nI_add, nI_mul, setN_now, setN_put, nI_cl, Nat.add_zero]) | (refine hcall _ _ _ _ ?_; first | (refine r_upMany hw ?_) | (refine r_sumOf hw (by omega) ?_) | (refine r_answered hw ?_) | fail))
      all_goals first
        | exact h
        | (rw [e11]; exact h)
        | (rw [e12]; exact h)
        | exact absurd (ofN 0).symm (by assumption)
        | exact absurd (ofN 1).symm (by assumption)
        | exact absurd (ofN 2).symm (by assumption)
        | exact absurd (ofN 3).symm (by assumption)
        | exact absurd (ofN 4).symm (by assumption)
        | exact absurd (ofN 5).symm (by assumption)
        | exact absurd (ofN 6).symm (by assumption)
        | exact absurd (ofN 7).symm (by assumption)
        | exact absurd (ofN 8).symm (by assumption)
        | exact absurd (ofN 9).symm (by assumption)
        | exact absurd (ofN 10).symm (by assumption)
        | exact absurd (ofN 11).symm (by assumption)
        | exact absurd (ofN 12).symm (by assumption)
        | exact absurd (ofN 13).symm (by assumption)
        | (clear h hX hcall hb e11 e12 h11 h12; simp (disch := omega) only [nI_toI, alen20]; omega)
        | (exfalso; clear hX hcall h hb e11 e12 h11 h12; simp (disch := omega) only [ofN, nI_inj] at * <;> omega)
  · have e : totA F (nI m) (nI n) v = -2 := by
      unfold totA
      rw [if_neg (fun q => hb (by rw [q]; exact iN_k (by omega) (by omega))), if_neg (fun q => hb (by rw [q]; exact iN_k (by omega) (by omega))), if_neg hb]
    rw [e] at h
    intro call hcall X hX; refine hX 1000 0 _ _ _ ?_
    repeat' (first | (intro hc) | (refine And.intro ?_ ?_) | (exact absurd nI_0 ‹cmpF 0 (nI 0) 0›) | (exact absurd ‹cmpT 0 (nI 1) 0› nI1_ne) | (exact absurd nI_0 ‹cmpT 1 (nI 0) 0›) | (exact absurd ‹cmpF 1 (nI 1) 0› nI1_ne) | (show wp _ _ _ _ _ _ _ _ _ _ _ _; conv => whnf))
    all_goals first
      | exact h
      | exact absurd (iN_of (show v = Int32.ofNat 0 by assumption) (by decide) (by decide)) hb
      | exact absurd (iN_of (show v = Int32.ofNat 1 by assumption) (by decide) (by decide)) hb
      | exact absurd (iN_of (show v = Int32.ofNat 2 by assumption) (by decide) (by decide)) hb
      | exact absurd (iN_of (show v = Int32.ofNat 3 by assumption) (by decide) (by decide)) hb
      | exact absurd (iN_of (show v = Int32.ofNat 4 by assumption) (by decide) (by decide)) hb
      | exact absurd (iN_of (show v = Int32.ofNat 5 by assumption) (by decide) (by decide)) hb
      | exact absurd (iN_of (show v = Int32.ofNat 6 by assumption) (by decide) (by decide)) hb
      | exact absurd (iN_of (show v = Int32.ofNat 7 by assumption) (by decide) (by decide)) hb
      | exact absurd (iN_of (show v = Int32.ofNat 8 by assumption) (by decide) (by decide)) hb
      | exact absurd (iN_of (show v = Int32.ofNat 9 by assumption) (by decide) (by decide)) hb
      | exact absurd (iN_of (show v = Int32.ofNat 10 by assumption) (by decide) (by decide)) hb
      | exact absurd (iN_of (show v = Int32.ofNat 11 by assumption) (by decide) (by decide)) hb
      | exact absurd (iN_of (show v = Int32.ofNat 12 by assumption) (by decide) (by decide)) hb
      | exact absurd (iN_of (show v = Int32.ofNat 13 by assumption) (by decide) (by decide)) hb
end REF31
