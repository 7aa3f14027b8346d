/-! THE REFERENCE: answers, choices, maps -/
def atB (F : Fm) (k : Nat) (place : Int32) : Nat → Bool
  | 0 => false
  | j + 1 => atB F k place j || (decide (F (29 + 17 * k + 5 + 4 * j) = nI 1) && decide (F (29 + 17 * k + 5 + 4 * j + 1) = place))
section REF3
variable {L : Nat} {xs : Nat → Int32} {f k r p j B : Nat} {x y v a z name flow place : Int32} {s : St} {F : Fm} {Q : Option MV → St → Prop}
theorem ansN_lt : ∀ n b, ansN F name n = some b → b < n
  | 0, b, h => by cases h
  | n + 1, b, h => by
    unfold ansN at h
    split at h
    · cases h; exact Nat.lt_succ_self _
    · exact Nat.lt_succ_of_lt (ansN_lt n b h)
theorem homeF_lt (hw : WF F B) : homeF F a z < 8 := by
  have := homeN_le (F := F) (a := a) (z := z) (cS F - 1)
  have h2 := hw.s2
  unfold homeF
  omega
theorem homeF_ltS (hw : WF F B) : homeF F a z < cS F := by
  have := homeN_le (F := F) (a := a) (z := z) (cS F - 1)
  have h2 := hw.s2
  unfold homeF
  omega
theorem optI_ne {o : Option Nat} (h : ∀ b, o = some b → b < 1000) : optI o (-5) = -5 ↔ o = none := by
  cases o with
  | none => exact ⟨fun _ => rfl, fun _ => rfl⟩
  | some b =>
    refine ⟨fun q => ?_, fun q => by cases q⟩
    have := congrArg Int32.toInt q
    have hb := h b rfl
    have e : (nI b).toInt = (b : Int) := nI_toI (by omega)
    have e2 : ((-5 : Int32)).toInt = -5 := by decide
    simp only [optI] at this
    omega
theorem nI_n5 {b : Nat} (h : b < 1000) : ¬ nI b = -5 := by
  intro q
  have := congrArg Int32.toInt q
  have e : (nI b).toInt = (b : Int) := nI_toI (by omega)
  have e2 : ((-5 : Int32)).toInt = -5 := by decide
  omega
set_option maxHeartbeats 4000000 in
set_option maxRecDepth 100000 in
theorem r_answerOf (hw : WF F B) (h : Q (some (.inl (optI (ansF F name) (-5)))) (setN s F)) : wpM L xs codT retT (f + 5) m_X10_answerOf [.inr (10, 0), .inl name] (setN s F) Q := by
  have ht := hw.t2
  have ht1 := hw.t1
  have hb1 := homeF_lt hw (a := name) (z := nI 1)
  intro call hcall X hX; refine hX 1000 0 _ _ _ ?_
  repeat' (first | (intro hc) | (refine And.intro ?_ ?_) | (exact absurd nI_0 ‹cmpF 0 (nI 0) 0›) | (exact absurd ‹cmpT 0 (nI 1) 0› nI1_ne) | (exact absurd nI_0 ‹cmpT 1 (nI 0) 0›) | (exact absurd ‹cmpF 1 (nI 1) 0› nI1_ne) | (show wp _ _ _ _ _ _ _ _ _ _ _ _; conv => whnf) | (simp (disch := omega) only [nI_add, nI_mul]) | (refine hcall _ _ _ _ ?_; first | (refine r_homeOf hw ?_) | fail))
  refine loopN (P := fun k => X 13 [.inr (10, 0), .inl name, .inl (optI (ansN F name k) (-5)), .inl (nI (homeF F name (nI 1))), .inl (nI k)] [] (setN s F)) (cT F) (fun k hk ih => ?_) ?_ 0 (by omega)
  · have hb2 := homeF_lt hw (a := F (29 + 17 * k)) (z := F (29 + 17 * k + 1))
    have hlt := ansN_lt (F := F) (name := name) k
    refine hX 1000 13 _ _ _ ?_
    cases ho : ansN F name k with
    | none =>
      repeat' (first | (intro hc) | (refine And.intro ?_ ?_) | (exact absurd nI_0 ‹cmpF 0 (nI 0) 0›) | (exact absurd ‹cmpT 0 (nI 1) 0› nI1_ne) | (exact absurd nI_0 ‹cmpT 1 (nI 0) 0›) | (exact absurd ‹cmpF 1 (nI 1) 0› nI1_ne) | (show wp _ _ _ _ _ _ _ _ _ _ _ _; conv => whnf) | (simp (disch := omega) only [nI_add, nI_mul]) | (refine hcall _ _ _ _ ?_; first | (refine r_isUp (by omega) ?_) | (refine r_has (by omega) ?_) | (refine r_homeOfSite hw (by omega) ?_) | (refine r_ofSite (by omega) ?_) | fail))
      all_goals (clear hX hcall h)
      all_goals (simp (disch := omega) only [cmpT, cmpF, nI_toI, setN_now, nI_cl, alen20, ht1, bI_eq0, bI_ne0, nI_inj, Classical.not_not, takeL, setL, nI_add, nI_mul, eq_self, not_true_eq_false] at *)
      all_goals first
        | omega
        | (rw [ansN, ho, if_pos ⟨⟨by assumption, by assumption, by assumption⟩, rfl⟩] at ih; exact ih)
        | (rw [ansN, ho, if_neg (by rintro ⟨⟨h1, h2, h3⟩, h4⟩; contradiction)] at ih; exact ih)
        | contradiction
    | some b =>
      have hb := hlt b ho
      repeat' (first | (intro hc) | (refine And.intro ?_ ?_) | (exact absurd nI_0 ‹cmpF 0 (nI 0) 0›) | (exact absurd ‹cmpT 0 (nI 1) 0› nI1_ne) | (exact absurd nI_0 ‹cmpT 1 (nI 0) 0›) | (exact absurd ‹cmpF 1 (nI 1) 0› nI1_ne) | (show wp _ _ _ _ _ _ _ _ _ _ _ _; conv => whnf) | (simp (disch := omega) only [nI_add, nI_mul]) | (refine hcall _ _ _ _ ?_; first | (refine r_isUp (by omega) ?_) | (refine r_has (by omega) ?_) | (refine r_homeOfSite hw (by omega) ?_) | (refine r_ofSite (by omega) ?_) | fail))
      all_goals (clear hX hcall h)
      all_goals (simp (disch := omega) only [cmpT, cmpF, nI_toI, setN_now, nI_cl, alen20, ht1, bI_eq0, bI_ne0, nI_inj, Classical.not_not, takeL, setL, nI_add, nI_mul, eq_self, not_true_eq_false] at *)
      all_goals first
        | omega
        | (rw [ansN, ho, if_pos ⟨⟨by assumption, by assumption, by assumption⟩, decide_eq_true (by assumption)⟩] at ih; exact ih)
        | (rw [ansN, ho, if_neg (by rintro ⟨⟨h1, h2, h3⟩, h4⟩; first | contradiction | (have h5 := of_decide_eq_true h4; omega))] at ih; exact ih)
        | exact absurd ‹optI (some b) (-5) = -5› (nI_n5 (by omega))
  · refine hX 1000 13 _ _ _ ?_
    repeat' (first | (intro hc) | (refine And.intro ?_ ?_) | (exact absurd nI_0 ‹cmpF 0 (nI 0) 0›) | (exact absurd ‹cmpT 0 (nI 1) 0› nI1_ne) | (exact absurd nI_0 ‹cmpT 1 (nI 0) 0›) | (exact absurd ‹cmpF 1 (nI 1) 0› nI1_ne) | (show wp _ _ _ _ _ _ _ _ _ _ _ _; conv => whnf) | (simp (disch := omega) only [nI_add, nI_mul]) | (refine hcall _ _ _ _ ?_; first | (refine r_isUp (by omega) ?_) | fail))
    all_goals (clear hX hcall)
    all_goals first
      | exact h
      | (clear h; simp (disch := omega) only [cmpT, cmpF, nI_toI, setN_now, nI_cl, ht1, alen20] at *; omega)
set_option maxHeartbeats 4000000 in
set_option maxRecDepth 100000 in
theorem r_isLetter (h : Q (some (.inl (bI ((0 ≤ name.toInt ∧ name.toInt ≤ 255) ∧ 0 ≤ flow.toInt ∧ flow.toInt ≤ 99)))) s) : wpM L xs codT retT (f + 3) m_X10_isLetter [.inl name, .inl flow] s Q := by
  intro call hcall X hX; refine hX 1000 0 _ _ _ ?_
  repeat' (first | (intro hc) | (refine And.intro ?_ ?_) | (exact absurd nI_0 ‹cmpF 0 (nI 0) 0›) | (exact absurd ‹cmpT 0 (nI 1) 0› nI1_ne) | (exact absurd nI_0 ‹cmpT 1 (nI 0) 0›) | (exact absurd ‹cmpF 1 (nI 1) 0› nI1_ne) | (show wp _ _ _ _ _ _ _ _ _ _ _ _; conv => whnf) | (simp (disch := omega) only [nI_add, nI_mul]) | (refine hcall _ _ _ _ ?_; first | (refine r_isName ?_) | (refine r_isIn ?_) | fail))
  all_goals (clear hX hcall)
  all_goals (simp (disch := omega) only [cmpT, cmpF, nI_toI, bI_eq0, bI_ne0, Classical.not_not] at *)
  all_goals first | decide | exact bI_01 _ | (refine bI_1 h ?_; clear h; omega) | (refine bI_0 h ?_; clear h; omega)
set_option maxHeartbeats 4000000 in
set_option maxRecDepth 100000 in
theorem r_mapsOf (hr : r < 4) (h : Q (some (.inl (F (165 + 6 * r)))) (setN s F)) : wpM L xs codT retT (f + 2) m_X10_mapsOf [.inr (10, 0), .inl (nI r)] (setN s F) Q := by
  intro call hcall X hX; refine hX 1000 0 _ _ _ ?_
  repeat' (first | (intro hc) | (refine And.intro ?_ ?_) | (exact absurd nI_0 ‹cmpF 0 (nI 0) 0›) | (exact absurd ‹cmpT 0 (nI 1) 0› nI1_ne) | (exact absurd nI_0 ‹cmpT 1 (nI 0) 0›) | (exact absurd ‹cmpF 1 (nI 1) 0› nI1_ne) | (show wp _ _ _ _ _ _ _ _ _ _ _ _; conv => whnf) | (simp (disch := omega) only [nI_add, nI_mul]) | (refine hcall _ _ _ _ ?_; first | (refine r_routerAt ?_) | fail))
  all_goals (clear hX hcall)
  all_goals first | (clear h; (try simp (disch := omega) only [cmpT, cmpF, nI_toI, nI_subI, Int32.toInt_zero, setN_now, nI_add, nI_mul, nI_cl, alen20, alen21, bI_eq0, bI_ne0, nI_inj, Nat.add_zero] at *); omega) | (simp (disch := omega) only [setN_now, setN_put, setN_setN, nI_add, nI_mul, nI_cl, Nat.add_zero, takeL, setL, Nat.reduceAdd, Nat.reduceMul]; exact h)
set_option maxHeartbeats 4000000 in
set_option maxRecDepth 100000 in
theorem r_ofMap (hr : mA r p + j < 509) (h : Q (some (.inl (F (mA r p + j)))) (setN s F)) : wpM L xs codT retT (f + 2) m_X10_ofMap [.inr (10, 0), .inl (nI r), .inl (nI p), .inl (nI j)] (setN s F) Q := by
  intro call hcall X hX; refine hX 1000 0 _ _ _ ?_
  repeat' (first | (intro hc) | (refine And.intro ?_ ?_) | (exact absurd nI_0 ‹cmpF 0 (nI 0) 0›) | (exact absurd ‹cmpT 0 (nI 1) 0› nI1_ne) | (exact absurd nI_0 ‹cmpT 1 (nI 0) 0›) | (exact absurd ‹cmpF 1 (nI 1) 0› nI1_ne) | (show wp _ _ _ _ _ _ _ _ _ _ _ _; conv => whnf) | (simp (disch := omega) only [nI_add, nI_mul]) | (refine hcall _ _ _ _ ?_; first | (refine r_mapAt ?_) | fail))
  all_goals (clear hX hcall)
  all_goals first | (clear h; (try simp (disch := omega) only [cmpT, cmpF, nI_toI, nI_subI, Int32.toInt_zero, setN_now, nI_add, nI_mul, nI_cl, alen20, alen21, bI_eq0, bI_ne0, nI_inj, Nat.add_zero] at *); omega) | (simp (disch := omega) only [setN_now, setN_put, setN_setN, nI_add, nI_mul, nI_cl, Nat.add_zero, takeL, setL, Nat.reduceAdd, Nat.reduceMul]; exact h)
set_option maxHeartbeats 4000000 in
set_option maxRecDepth 100000 in
theorem r_proxy (hr : r < 4) (h : Q (some (.inl (proxF name))) (setN s (plusF F (165 + 6 * r + 4)))) : wpM L xs codT retT (f + 2) m_X10_proxy [.inr (10, 0), .inl (nI r), .inl name] (setN s F) Q := by
  intro call hcall X hX; refine hX 1000 0 _ _ _ ?_
  repeat' (first | (intro hc) | (refine And.intro ?_ ?_) | (exact absurd nI_0 ‹cmpF 0 (nI 0) 0›) | (exact absurd ‹cmpT 0 (nI 1) 0› nI1_ne) | (exact absurd nI_0 ‹cmpT 1 (nI 0) 0›) | (exact absurd ‹cmpF 1 (nI 1) 0› nI1_ne) | (show wp _ _ _ _ _ _ _ _ _ _ _ _; conv => whnf) | (simp (disch := omega) only [nI_add, nI_mul]) | (refine hcall _ _ _ _ ?_; first | (refine r_routerAt ?_) | fail))
  all_goals (clear hX hcall)
  all_goals first
    | (clear h; simp (disch := omega) only [nI_toI, alen20]; omega)
    | exact absurd ‹nI 32 = 0› (by decide)
    | (simp (disch := omega) only [setN_now, setN_put, nI_cl, putF_plus]; exact h)
/-! the maps of a router -/
def drK (F : Fm) (r p k : Nat) : Fm := fun i => if i = 165 + 6 * r then F i - nI 1 else if mA r p ≤ i ∧ i < k then F (i + 16) else F i
theorem drK_0 : drK F r p (mA r p) = putF F (165 + 6 * r) (F (165 + 6 * r) - nI 1) := by
  funext i
  unfold drK putF
  by_cases h : i = 165 + 6 * r
  · rw [if_pos h, if_pos h, h]
  · rw [if_neg h, if_neg h, if_neg (by omega)]
theorem drK_s (hk : mA r p ≤ k) (hr : r < 4) : putF (drK F r p k) k (drK F r p k (k + 16)) = drK F r p (k + 1) := by
  have hm : 189 ≤ mA r p := by unfold mA; omega
  funext i
  simp only [drK, putF]
  (repeat' split) <;> first | rfl | omega | (exfalso; omega) | (congr 1; omega)
theorem drK_c (hc : F (165 + 6 * r) = nI (cM F r)) (h1 : 1 ≤ cM F r) (h2 : cM F r ≤ 5) : drK F r p k (165 + 6 * r) = nI (cM F r - 1) := by
  show (if 165 + 6 * r = 165 + 6 * r then F (165 + 6 * r) - nI 1 else _) = _
  rw [if_pos rfl, hc, nI_sub (by omega) h1]
set_option maxHeartbeats 4000000 in
set_option maxRecDepth 100000 in
theorem r_drops (hr : r < 4) (hc : F (165 + 6 * r) = nI (cM F r)) (h2 : cM F r ≤ 5) (hp : p < cM F r) (h : Q none (setN s (dropsF F r p))) : wpM L xs codT retT (f + 3) m_X10_drops [.inr (10, 0), .inl (nI r), .inl (nI p)] (setN s F) Q := by
  have hmA : mA r p ≤ mA r (cM F r - 1) := by unfold mA; omega
  have hmB : mA r (cM F r - 1) ≤ 493 := by unfold mA; omega
  intro call hcall X hX; refine hX 1000 0 _ _ _ ?_
  repeat' (first | (intro hc) | (refine And.intro ?_ ?_) | (exact absurd nI_0 ‹cmpF 0 (nI 0) 0›) | (exact absurd ‹cmpT 0 (nI 1) 0› nI1_ne) | (exact absurd nI_0 ‹cmpT 1 (nI 0) 0›) | (exact absurd ‹cmpF 1 (nI 1) 0› nI1_ne) | (show wp _ _ _ _ _ _ _ _ _ _ _ _; conv => whnf) | (simp (disch := omega) only [nI_add, nI_mul]) | (refine hcall _ _ _ _ ?_; first | (refine r_routerAt ?_) | (refine r_mapAt ?_) | fail))
  · clear h hX hcall; simp (disch := omega) only [nI_toI, alen20]; omega
  · clear h hX hcall; simp (disch := omega) only [nI_toI, alen20]; omega
  · clear h hX hcall; simp (disch := omega) only [nI_toI, alen20]; omega
  · clear h hX hcall; simp (disch := omega) only [nI_toI, alen20]; omega
  simp (disch := omega) only [setN_now, setN_put, nI_cl, takeL, setL, Nat.add_zero]
  rw [← drK_0 (p := p)]
  refine loopN (P := fun k => mA r p ≤ k → X 21 [.inr (10, 0), .inl (nI r), .inl (nI p), .inl (nI k)] [] (setN s (drK F r p k))) (mA r (cM F r - 1)) (fun k hk ih hge => ?_) (fun hge => ?_) (mA r p) hmA (Nat.le_refl _)
  · have ih := ih (by omega)
    have hcc := drK_c (p := p) (k := k) hc (by omega) h2
    refine hX 1000 21 _ _ _ ?_
    repeat' (first | (intro hc) | (refine And.intro ?_ ?_) | (exact absurd nI_0 ‹cmpF 0 (nI 0) 0›) | (exact absurd ‹cmpT 0 (nI 1) 0› nI1_ne) | (exact absurd nI_0 ‹cmpT 1 (nI 0) 0›) | (exact absurd ‹cmpF 1 (nI 1) 0› nI1_ne) | (show wp _ _ _ _ _ _ _ _ _ _ _ _; conv => whnf) | (rw [hcc]) | (simp (disch := omega) only [nI_add, nI_mul]) | (refine hcall _ _ _ _ ?_; first | (refine r_mapsOf hr ?_) | (refine r_mapAt ?_) | fail))
    all_goals (clear hX hcall h)
    all_goals (simp (disch := omega) only [cmpT, cmpF, nI_toI, alen20, setN_now, setN_put, nI_cl, takeL, setL, nI_add] at *)
    all_goals first
      | omega
      | (rw [drK_s (by omega) hr]; exact ih)
  · have hcc := drK_c (p := p) (k := mA r (cM F r - 1)) hc (by omega) h2
    refine hX 1000 21 _ _ _ ?_
    repeat' (first | (intro hc) | (refine And.intro ?_ ?_) | (exact absurd nI_0 ‹cmpF 0 (nI 0) 0›) | (exact absurd ‹cmpT 0 (nI 1) 0› nI1_ne) | (exact absurd nI_0 ‹cmpT 1 (nI 0) 0›) | (exact absurd ‹cmpF 1 (nI 1) 0› nI1_ne) | (show wp _ _ _ _ _ _ _ _ _ _ _ _; conv => whnf) | (rw [hcc]) | (simp (disch := omega) only [nI_add, nI_mul]) | (refine hcall _ _ _ _ ?_; first | (refine r_mapsOf hr ?_) | (refine r_mapAt ?_) | fail))
    all_goals (clear hX hcall)
    all_goals first | exact h | (clear h; simp (disch := omega) only [cmpT, cmpF, nI_toI] at *; omega)
end REF3
theorem i_vc : Claimed_1_1 ∧ Claimed_1_2 := sorry
