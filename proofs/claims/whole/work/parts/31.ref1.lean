/-! THE REFERENCE'S SMALL METHODS -/
theorem bI_c {a b : Prop} [Decidable a] [Decidable b] {Q : Option MV → St → Prop} {s : St} (h : Q (some (.inl (bI a))) s) (e : b ↔ a) : Q (some (.inl (bI b))) s := by
  have : bI b = bI a := by
    unfold bI
    by_cases h1 : a
    · rw [if_pos h1, if_pos (e.mpr h1)]
    · rw [if_neg h1, if_neg (fun q => h1 (e.mp q))]
  rwa [this]
/-- a counting loop: from the head's state at k to that at k + 1, and out at n -/
theorem loopN {P : Nat → Prop} (n : Nat) (step : ∀ k, k < n → P (k + 1) → P k) (last : P n) (k : Nat) (hk : k ≤ n) : P k := by
  have : ∀ j k, k + j = n → P k := by
    intro j
    induction j with
    | zero => intro k h; have : k = n := by omega
              rw [this]; exact last
    | succ j ih => intro k h; exact step k (by omega) (ih (k + 1) (by omega))
  exact this (n - k) k (by omega)
section REF1
variable {L : Nat} {xs : Nat → Int32} {f k r p j B : Nat} {x y v a z : Int32} {s : St} {F : Fm} {Q : Option MV → St → Prop}
set_option maxHeartbeats 4000000 in
set_option maxRecDepth 100000 in
theorem r_isIn (h : Q (some (.inl (bI (x.toInt ≤ v.toInt ∧ v.toInt ≤ y.toInt)))) s) : wpM L xs codT retT (f + 1) m_X10_isIn [.inl v, .inl x, .inl y] s Q := by
  intro call hcall X hX; refine hX 1000 0 _ _ _ ?_
  repeat' (first | (intro hc) | (refine And.intro ?_ ?_) | (exact absurd nI_0 ‹cmpF 0 (nI 0) 0›) | (exact absurd ‹cmpT 0 (nI 1) 0› nI1_ne) | (exact absurd nI_0 ‹cmpT 1 (nI 0) 0›) | (exact absurd ‹cmpF 1 (nI 1) 0› nI1_ne) | (show wp _ _ _ _ _ _ _ _ _ _ _ _; conv => whnf))
  all_goals (clear hX hcall)
  all_goals first | decide | (refine bI_1 h ?_; clear h; (try simp (disch := omega) only [cmpT, cmpF, nI_toI, nI_subI, Int32.toInt_zero, setN_now, nI_add, nI_mul, nI_cl, alen20, alen21, bI_eq0, bI_ne0, nI_inj, Nat.add_zero] at *); omega) | (refine bI_0 h ?_; clear h; (try simp (disch := omega) only [cmpT, cmpF, nI_toI, nI_subI, Int32.toInt_zero, setN_now, nI_add, nI_mul, nI_cl, alen20, alen21, bI_eq0, bI_ne0, nI_inj, Nat.add_zero] at *); omega)
set_option maxHeartbeats 4000000 in
set_option maxRecDepth 100000 in
theorem r_isServer {n : Nat} (hn : F 1 = nI n) (h2 : n < 1000) (h : Q (some (.inl (bI (0 ≤ v.toInt ∧ v.toInt < (n : Int))))) (setN s F)) : wpM L xs codT retT (f + 2) m_X10_isServer [.inr (10, 0), .inl v] (setN s F) Q := by
  intro call hcall X hX; refine hX 1000 0 _ _ _ ?_
  repeat' (first | (intro hc) | (refine And.intro ?_ ?_) | (exact absurd nI_0 ‹cmpF 0 (nI 0) 0›) | (exact absurd ‹cmpT 0 (nI 1) 0› nI1_ne) | (exact absurd nI_0 ‹cmpT 1 (nI 0) 0›) | (exact absurd ‹cmpF 1 (nI 1) 0› nI1_ne) | (show wp _ _ _ _ _ _ _ _ _ _ _ _; conv => whnf) | (simp (disch := omega) only [nI_add, nI_mul]) | (refine hcall _ _ _ _ ?_; first | (refine r_isIn ?_) | fail))
  all_goals (clear hX hcall)
  all_goals first | exact bI_01 _ | (clear h; (try simp (disch := omega) only [cmpT, cmpF, nI_toI, nI_subI, Int32.toInt_zero, setN_now, nI_add, nI_mul, nI_cl, alen20, alen21, bI_eq0, bI_ne0, nI_inj, Nat.add_zero] at *); omega) | (refine bI_c h ?_; clear h; simp (disch := omega) only [setN_now, nI_add, nI_mul, nI_cl, hn, nI_toI, nI_subI]; omega)
set_option maxHeartbeats 4000000 in
set_option maxRecDepth 100000 in
theorem r_isSite {n : Nat} (hn : F 2 = nI n) (h2 : n < 1000) (h : Q (some (.inl (bI (0 ≤ v.toInt ∧ v.toInt < (n : Int))))) (setN s F)) : wpM L xs codT retT (f + 2) m_X10_isSite [.inr (10, 0), .inl v] (setN s F) Q := by
  intro call hcall X hX; refine hX 1000 0 _ _ _ ?_
  repeat' (first | (intro hc) | (refine And.intro ?_ ?_) | (exact absurd nI_0 ‹cmpF 0 (nI 0) 0›) | (exact absurd ‹cmpT 0 (nI 1) 0› nI1_ne) | (exact absurd nI_0 ‹cmpT 1 (nI 0) 0›) | (exact absurd ‹cmpF 1 (nI 1) 0› nI1_ne) | (show wp _ _ _ _ _ _ _ _ _ _ _ _; conv => whnf) | (simp (disch := omega) only [nI_add, nI_mul]) | (refine hcall _ _ _ _ ?_; first | (refine r_isIn ?_) | fail))
  all_goals (clear hX hcall)
  all_goals first | exact bI_01 _ | (clear h; (try simp (disch := omega) only [cmpT, cmpF, nI_toI, nI_subI, Int32.toInt_zero, setN_now, nI_add, nI_mul, nI_cl, alen20, alen21, bI_eq0, bI_ne0, nI_inj, Nat.add_zero] at *); omega) | (refine bI_c h ?_; clear h; simp (disch := omega) only [setN_now, nI_add, nI_mul, nI_cl, hn, nI_toI, nI_subI]; omega)
set_option maxHeartbeats 4000000 in
set_option maxRecDepth 100000 in
theorem r_isRouter {n : Nat} (hn : F 3 = nI n) (h2 : n < 1000) (h : Q (some (.inl (bI (0 ≤ v.toInt ∧ v.toInt < (n : Int))))) (setN s F)) : wpM L xs codT retT (f + 2) m_X10_isRouter [.inr (10, 0), .inl v] (setN s F) Q := by
  intro call hcall X hX; refine hX 1000 0 _ _ _ ?_
  repeat' (first | (intro hc) | (refine And.intro ?_ ?_) | (exact absurd nI_0 ‹cmpF 0 (nI 0) 0›) | (exact absurd ‹cmpT 0 (nI 1) 0› nI1_ne) | (exact absurd nI_0 ‹cmpT 1 (nI 0) 0›) | (exact absurd ‹cmpF 1 (nI 1) 0› nI1_ne) | (show wp _ _ _ _ _ _ _ _ _ _ _ _; conv => whnf) | (simp (disch := omega) only [nI_add, nI_mul]) | (refine hcall _ _ _ _ ?_; first | (refine r_isIn ?_) | fail))
  all_goals (clear hX hcall)
  all_goals first | exact bI_01 _ | (clear h; (try simp (disch := omega) only [cmpT, cmpF, nI_toI, nI_subI, Int32.toInt_zero, setN_now, nI_add, nI_mul, nI_cl, alen20, alen21, bI_eq0, bI_ne0, nI_inj, Nat.add_zero] at *); omega) | (refine bI_c h ?_; clear h; simp (disch := omega) only [setN_now, nI_add, nI_mul, nI_cl, hn, nI_toI, nI_subI]; omega)
set_option maxHeartbeats 4000000 in
set_option maxRecDepth 100000 in
theorem r_isName (h : Q (some (.inl (bI (0 ≤ v.toInt ∧ v.toInt ≤ 255)))) s) : wpM L xs codT retT (f + 2) m_X10_isName [.inl v] s Q := by
  intro call hcall X hX; refine hX 1000 0 _ _ _ ?_
  repeat' (first | (intro hc) | (refine And.intro ?_ ?_) | (exact absurd nI_0 ‹cmpF 0 (nI 0) 0›) | (exact absurd ‹cmpT 0 (nI 1) 0› nI1_ne) | (exact absurd nI_0 ‹cmpT 1 (nI 0) 0›) | (exact absurd ‹cmpF 1 (nI 1) 0› nI1_ne) | (show wp _ _ _ _ _ _ _ _ _ _ _ _; conv => whnf) | (simp (disch := omega) only [nI_add, nI_mul]) | (refine hcall _ _ _ _ ?_; first | (refine r_isIn ?_) | fail))
  all_goals (clear hX hcall)
  all_goals first | exact bI_01 _ | (refine bI_c h ?_; clear h; simp (disch := omega) only [nI_toI]; omega)
set_option maxHeartbeats 4000000 in
set_option maxRecDepth 100000 in
theorem r_siteAt (h : Q (some (.inl (nI (29 + 17 * k)))) s) : wpM L xs codT retT (f + 1) m_X10_siteAt [.inl (nI k)] s Q := by
  intro call hcall X hX; refine hX 1000 0 _ _ _ ?_
  repeat' (first | (intro hc) | (refine And.intro ?_ ?_) | (exact absurd nI_0 ‹cmpF 0 (nI 0) 0›) | (exact absurd ‹cmpT 0 (nI 1) 0› nI1_ne) | (exact absurd nI_0 ‹cmpT 1 (nI 0) 0›) | (exact absurd ‹cmpF 1 (nI 1) 0› nI1_ne) | (show wp _ _ _ _ _ _ _ _ _ _ _ _; conv => whnf))
  all_goals (clear hX hcall)
  simp (disch := omega) only [setN_now, setN_put, setN_setN, nI_add, nI_mul, nI_cl, Nat.add_zero, Nat.reduceAdd, Nat.reduceMul]
  exact h
set_option maxHeartbeats 4000000 in
set_option maxRecDepth 100000 in
theorem r_routerAt (h : Q (some (.inl (nI (165 + 6 * k)))) s) : wpM L xs codT retT (f + 1) m_X10_routerAt [.inl (nI k)] s Q := by
  intro call hcall X hX; refine hX 1000 0 _ _ _ ?_
  repeat' (first | (intro hc) | (refine And.intro ?_ ?_) | (exact absurd nI_0 ‹cmpF 0 (nI 0) 0›) | (exact absurd ‹cmpT 0 (nI 1) 0› nI1_ne) | (exact absurd nI_0 ‹cmpT 1 (nI 0) 0›) | (exact absurd ‹cmpF 1 (nI 1) 0› nI1_ne) | (show wp _ _ _ _ _ _ _ _ _ _ _ _; conv => whnf))
  all_goals (clear hX hcall)
  simp (disch := omega) only [setN_now, setN_put, setN_setN, nI_add, nI_mul, nI_cl, Nat.add_zero, Nat.reduceAdd, Nat.reduceMul]
  exact h
set_option maxHeartbeats 4000000 in
set_option maxRecDepth 100000 in
theorem r_mapAt (h : Q (some (.inl (nI (mA r p)))) s) : wpM L xs codT retT (f + 1) m_X10_mapAt [.inl (nI r), .inl (nI p)] s Q := by
  intro call hcall X hX; refine hX 1000 0 _ _ _ ?_
  repeat' (first | (intro hc) | (refine And.intro ?_ ?_) | (exact absurd nI_0 ‹cmpF 0 (nI 0) 0›) | (exact absurd ‹cmpT 0 (nI 1) 0› nI1_ne) | (exact absurd nI_0 ‹cmpT 1 (nI 0) 0›) | (exact absurd ‹cmpF 1 (nI 1) 0› nI1_ne) | (show wp _ _ _ _ _ _ _ _ _ _ _ _; conv => whnf))
  all_goals (clear hX hcall)
  simp (disch := omega) only [setN_now, setN_put, setN_setN, nI_add, nI_mul, nI_cl, Nat.add_zero, Nat.reduceAdd, Nat.reduceMul]
  exact h
set_option maxHeartbeats 4000000 in
set_option maxRecDepth 100000 in
theorem r_firstOf (hk : k < 8) (h : Q (some (.inl (F (5 + 3 * k + 1)))) (setN s F)) : wpM L xs codT retT (f + 1) m_X10_firstOf [.inr (10, 0), .inl (nI k)] (setN s F) Q := by
  intro call hcall X hX; refine hX 1000 0 _ _ _ ?_
  repeat' (first | (intro hc) | (refine And.intro ?_ ?_) | (exact absurd nI_0 ‹cmpF 0 (nI 0) 0›) | (exact absurd ‹cmpT 0 (nI 1) 0› nI1_ne) | (exact absurd nI_0 ‹cmpT 1 (nI 0) 0›) | (exact absurd ‹cmpF 1 (nI 1) 0› nI1_ne) | (show wp _ _ _ _ _ _ _ _ _ _ _ _; conv => whnf))
  all_goals (clear hX hcall)
  all_goals first | (clear h; (try simp (disch := omega) only [cmpT, cmpF, nI_toI, nI_subI, Int32.toInt_zero, setN_now, nI_add, nI_mul, nI_cl, alen20, alen21, bI_eq0, bI_ne0, nI_inj, Nat.add_zero] at *); omega) | (simp (disch := omega) only [setN_now, setN_put, setN_setN, nI_add, nI_mul, nI_cl, Nat.add_zero, Nat.reduceAdd, Nat.reduceMul]; exact h)
set_option maxHeartbeats 4000000 in
set_option maxRecDepth 100000 in
theorem r_sizeOf (hk : k < 8) (h : Q (some (.inl (F (5 + 3 * k + 2)))) (setN s F)) : wpM L xs codT retT (f + 1) m_X10_sizeOf [.inr (10, 0), .inl (nI k)] (setN s F) Q := by
  intro call hcall X hX; refine hX 1000 0 _ _ _ ?_
  repeat' (first | (intro hc) | (refine And.intro ?_ ?_) | (exact absurd nI_0 ‹cmpF 0 (nI 0) 0›) | (exact absurd ‹cmpT 0 (nI 1) 0› nI1_ne) | (exact absurd nI_0 ‹cmpT 1 (nI 0) 0›) | (exact absurd ‹cmpF 1 (nI 1) 0› nI1_ne) | (show wp _ _ _ _ _ _ _ _ _ _ _ _; conv => whnf))
  all_goals (clear hX hcall)
  all_goals first | (clear h; (try simp (disch := omega) only [cmpT, cmpF, nI_toI, nI_subI, Int32.toInt_zero, setN_now, nI_add, nI_mul, nI_cl, alen20, alen21, bI_eq0, bI_ne0, nI_inj, Nat.add_zero] at *); omega) | (simp (disch := omega) only [setN_now, setN_put, setN_setN, nI_add, nI_mul, nI_cl, Nat.add_zero, Nat.reduceAdd, Nat.reduceMul]; exact h)
set_option maxHeartbeats 4000000 in
set_option maxRecDepth 100000 in
theorem r_holds (hk : k < 8) (h : Q (some (.inl (bI (holdF F k a z)))) (setN s F)) : wpM L xs codT retT (f + 2) m_X10_holds [.inr (10, 0), .inl (nI k), .inl a, .inl z] (setN s F) Q := by
  intro call hcall X hX; refine hX 1000 0 _ _ _ ?_
  repeat' (first | (intro hc) | (refine And.intro ?_ ?_) | (exact absurd nI_0 ‹cmpF 0 (nI 0) 0›) | (exact absurd ‹cmpT 0 (nI 1) 0› nI1_ne) | (exact absurd nI_0 ‹cmpT 1 (nI 0) 0›) | (exact absurd ‹cmpF 1 (nI 1) 0› nI1_ne) | (show wp _ _ _ _ _ _ _ _ _ _ _ _; conv => whnf) | (simp (disch := omega) only [nI_add, nI_mul]) | (refine hcall _ _ _ _ ?_; first | (refine r_firstOf hk ?_) | (refine r_sizeOf hk ?_) | fail))
  all_goals (clear hX hcall)
  all_goals first | decide | (refine bI_1 h ?_; clear h; unfold holdF; (try simp (disch := omega) only [cmpT, cmpF, nI_toI, nI_subI, Int32.toInt_zero, setN_now, nI_add, nI_mul, nI_cl, alen20, alen21, bI_eq0, bI_ne0, nI_inj, Nat.add_zero] at *); omega) | (refine bI_0 h ?_; clear h; unfold holdF; (try simp (disch := omega) only [cmpT, cmpF, nI_toI, nI_subI, Int32.toInt_zero, setN_now, nI_add, nI_mul, nI_cl, alen20, alen21, bI_eq0, bI_ne0, nI_inj, Nat.add_zero] at *); omega)
theorem homeN_le : ∀ n, homeN F a z n ≤ n
  | 0 => Nat.le_refl _
  | n + 1 => by
    unfold homeN
    split
    · exact Nat.le_refl _
    · exact Nat.le_succ_of_le (homeN_le n)
set_option maxHeartbeats 4000000 in
set_option maxRecDepth 100000 in
theorem r_homeOf (hw : WF F B) (h : Q (some (.inl (nI (homeF F a z)))) (setN s F)) : wpM L xs codT retT (f + 3) m_X10_homeOf [.inr (10, 0), .inl a, .inl z] (setN s F) Q := by
  have hn := hw.s1
  have h2 := hw.s2
  clear hw
  intro call hcall X hX; refine hX 1000 0 _ _ _ ?_
  repeat' (first | (intro hc) | (refine And.intro ?_ ?_) | (exact absurd nI_0 ‹cmpF 0 (nI 0) 0›) | (exact absurd ‹cmpT 0 (nI 1) 0› nI1_ne) | (exact absurd nI_0 ‹cmpT 1 (nI 0) 0›) | (exact absurd ‹cmpF 1 (nI 1) 0› nI1_ne) | (show wp _ _ _ _ _ _ _ _ _ _ _ _; conv => whnf))
  refine loopN (P := fun k => X 5 [.inr (10, 0), .inl a, .inl z, .inl (nI (homeN F a z k)), .inl (nI (k + 1))] [] (setN s F)) (cS F - 1) (fun k hk ih => ?_) ?_ 0 (by omega)
  · have hle := homeN_le (F := F) (a := a) (z := z) k
    refine hX 1000 5 _ _ _ ?_
    repeat' (first | (intro hc) | (refine And.intro ?_ ?_) | (exact absurd nI_0 ‹cmpF 0 (nI 0) 0›) | (exact absurd ‹cmpT 0 (nI 1) 0› nI1_ne) | (exact absurd nI_0 ‹cmpT 1 (nI 0) 0›) | (exact absurd ‹cmpF 1 (nI 1) 0› nI1_ne) | (show wp _ _ _ _ _ _ _ _ _ _ _ _; conv => whnf) | (simp (disch := omega) only [nI_add, nI_mul]) | (refine hcall _ _ _ _ ?_; first | (refine r_holds (by omega) ?_) | (refine r_sizeOf (by omega) ?_) | fail))
    all_goals (clear hX hcall h)
    all_goals (try simp (disch := omega) only [cmpT, cmpF, nI_toI, setN_now, nI_cl, hn, bI_eq0, bI_ne0, holdF, alen20, takeL, setL, nI_add] at *)
    all_goals first
      | omega
      | (rw [homeN, if_pos (by omega)] at ih; exact ih)
      | (rw [homeN, if_neg (by omega)] at ih; exact ih)
  · refine hX 1000 5 _ _ _ ?_
    repeat' (first | (intro hc) | (refine And.intro ?_ ?_) | (exact absurd nI_0 ‹cmpF 0 (nI 0) 0›) | (exact absurd ‹cmpT 0 (nI 1) 0› nI1_ne) | (exact absurd nI_0 ‹cmpT 1 (nI 0) 0›) | (exact absurd ‹cmpF 1 (nI 1) 0› nI1_ne) | (show wp _ _ _ _ _ _ _ _ _ _ _ _; conv => whnf) | (simp (disch := omega) only [nI_add, nI_mul]) | (refine hcall _ _ _ _ ?_; first | (refine r_holds (by omega) ?_) | (refine r_sizeOf (by omega) ?_) | fail))
    all_goals (clear hX hcall)
    all_goals first
      | (have e : homeF F a z = homeN F a z (cS F - 1) := by rfl
         rw [e] at h; exact h)
      | (clear h; simp (disch := omega) only [cmpT, cmpF, nI_toI, setN_now, nI_cl, hn, alen20] at *; omega)
end REF1
