/-! THE REFERENCE: wouldReach, wouldAsk -/
def reachA (F : Fm) (v name flow x : Int32) : Int32 := if ¬ iN v (cR F) then -1 else if ¬ ((iN name 256 ∧ iN flow 100) ∧ iN x 100) then -2 else (sendF (putF F 0 (F 0 + x)) (nn v) name flow).1
def askA (F : Fm) (v name flow : Int32) : Int32 := if ¬ iN v (cR F) then -1 else if ¬ (iN name 256 ∧ iN flow 100) then -2 else (sendF F (nn v) name flow).2 (165 + 6 * nn v + 1) - F (165 + 6 * nn v + 1)
section REF24
variable {L : Nat} {xs : Nat → Int32} {f i k r p q c j n B b w m : Nat} {x y v a z l name flow place : Int32} {s : St} {F G F' : Fm} {Q : Option MV → St → Prop}
set_option maxHeartbeats 4000000 in
set_option maxRecDepth 100000 in
theorem WF_cgr (hw : WF F B) (h : ∀ i, 0 < i → i < 509 → G i = F i) (h0 : 0 ≤ (G 0).toInt ∧ (G 0).toInt ≤ 10200) : WF G B := by
  have e1 : cS G = cS F := by unfold cS; rw [h 1 (by omega) (by omega)]
  have e2 : cT G = cT F := by unfold cT; rw [h 2 (by omega) (by omega)]
  have e3 : cR G = cR F := by unfold cR; rw [h 3 (by omega) (by omega)]
  have hs := hw.s2
  have ht := hw.t2
  have hr := hw.r2
  refine ⟨?_, ?_, ?_, h0, ?_, fun k hk => ?_, fun k hk => ?_, fun r hk => ?_⟩
  · rw [h 1 (by omega) (by omega), e1]; exact hw.1
  · rw [h 2 (by omega) (by omega), e2]; exact hw.2.1
  · rw [h 3 (by omega) (by omega), e3]; exact hw.2.2.1
  · rw [h 4 (by omega) (by omega)]; exact hw.l
  · rw [e1] at hk
    have q := hw.server hk
    unfold WFserver at q ⊢
    rw [h (5 + 3 * k) (by omega) (by omega), h (5 + 3 * k + 1) (by omega) (by omega), h (5 + 3 * k + 2) (by omega) (by omega)]
    exact q
  · rw [e2] at hk
    have q := hw.site hk
    unfold WFsite at q ⊢
    rw [h (29 + 17 * k) (by omega) (by omega), h (29 + 17 * k + 1) (by omega) (by omega), h (29 + 17 * k + 2) (by omega) (by omega), h (29 + 17 * k + 3) (by omega) (by omega), h (29 + 17 * k + 4) (by omega) (by omega)]
    exact ⟨q.1, q.2.1, q.2.2.1, q.2.2.2.1, fun j hj => slotOk_cg (fun i h1 h2 => h i (by omega) (by omega)) (q.2.2.2.2 j hj)⟩
  · rw [e3] at hk
    have m0 := mA_eq r 0
    have m5 := mA_eq r 5
    exact WFrouter_cg e2 (h _ (by omega) (by omega)) (fun i a b => h i (by omega) (by omega)) (hw.router hk)
theorem WF_hour (hw : WF F B) (h0 : 0 ≤ x.toInt ∧ x.toInt ≤ 10200) : WF (putF F 0 x) B := WF_cgr hw (fun i h1 h2 => putF_ne _ _ (by omega)) (by rw [putF_at]; exact h0)
theorem back_F (hi : i < 509) : mixF F' (fun k => keepG G F 7 (509 * 7 + k)) i = F i := by
  unfold mixF keepG
  rw [if_pos hi]
  dsimp only
  rw [if_pos (by omega), show 509 * 7 + i - 509 * 7 = i by omega]
theorem keep_lo (hi : i < 3563) : keepG G F 7 i = G i := by
  unfold keepG
  rw [if_neg (by omega)]
theorem add_hour (h1 : 0 ≤ a.toInt ∧ a.toInt ≤ 10000) (h2 : 0 ≤ x.toInt ∧ x.toInt ≤ 100) : (a + x).toInt = a.toInt + x.toInt := by
  rw [Int32.toInt_add]
  apply Int.bmod_eq_of_le <;> omega
theorem iN_let (h : iN name 256 ∧ iN flow 100) : (0 ≤ name.toInt ∧ name.toInt ≤ 255) ∧ 0 ≤ flow.toInt ∧ flow.toInt ≤ 99 := by omega
theorem iN_nlet (h : ¬ (iN name 256 ∧ iN flow 100)) : ¬ ((0 ≤ name.toInt ∧ name.toInt ≤ 255) ∧ 0 ≤ flow.toInt ∧ flow.toInt ≤ 99) := by omega
set_option maxHeartbeats 4000000 in
set_option maxRecDepth 100000 in
theorem r_wouldReach (hw : WF F B) (hh : (F 0).toInt ≤ 9999) (h : ∀ G' F', (∀ i, i < 509 → F' i = F i) → (∀ i, i < 3563 → G' i = G i) → Q (some (.inl (reachA F v name flow x))) (setN (setK s G') F')) : wpM L xs codT retT (f + 8) m_X10_wouldReach [.inr (10, 0), .inl v, .inl name, .inl flow, .inl x] (setN (setK s G) F) Q := by
  have r2 := hw.r2
  have hh0 := hw.h
  by_cases hv : iN v (cR F)
  · obtain ⟨r, hp, hpl⟩ := iN_nn hv (by omega)
    subst hp
    have en : nn (nI r) = r := nI_cl (by omega)
    by_cases hb : (iN name 256 ∧ iN flow 100) ∧ iN x 100
    · have e : reachA F (nI r) name flow x = (sendF (putF F 0 (F 0 + x)) r name flow).1 := by unfold reachA; rw [if_neg (fun q => q hv), if_neg (fun q => q hb), en]
      rw [e] at h
      have hl := iN_let hb.1
      have hx := hb.2
      have ea := add_hour (x := x) (a := F 0) (by omega) (by omega)
      have hw2 : WF (putF F 0 (F 0 + x)) B := WF_hour hw (by omega)
      have hr2 : r < cR (putF F 0 (F 0 + x)) := by unfold cR; rw [putF_ne _ _ (by omega)]; exact hpl
      have h := h _ _ (fun i hi => back_F (G := G) (F' := (sendF (putF F 0 (F 0 + x)) r name flow).2) hi) (fun i hi => keep_lo (F := F) hi)
      intro call hcall X hX; refine hX 1000 0 _ _ _ ?_
      repeat' (first | (intro hc) | (refine And.intro ?_ ?_) | (exact absurd nI_0 ‹cmpF 0 (nI 0) 0›) | (exact absurd ‹cmpT 0 (nI 1) 0› nI1_ne) | (exact absurd nI_0 ‹cmpT 1 (nI 0) 0›) | (exact absurd ‹cmpF 1 (nI 1) 0› nI1_ne) | (show wp _ _ _ _ _ _ _ _ _ _ _ _; conv => whnf) | (simp (disch := omega) only [nI_add, nI_mul, setN_now, setN_put, nI_cl, Nat.add_zero]) | (refine hcall _ _ _ _ ?_; first | (refine r_isRouter hw.r1 (by omega) ?_) | (refine r_isLetter ?_) | (refine r_isIn ?_) | (refine r_keeps (by omega) ?_) | (refine r_sends hw2 hr2 ?_) | (refine r_brings (by omega) ?_) | fail))
      all_goals first
        | exact h
        | (clear h; (try clear hX hcall); (try clear h); simp (disch := omega) only [cmpT, cmpF, bI_eq0, bI_ne0, Classical.not_not, nI_toI, setN_now, nI_cl, alen20, Int32.toInt_zero, hw.s1, hw.t1, hw.r1, nI_add, nI_mul, takeL, setL, setN_put] at *; first | omega | contradiction)
    · have e : reachA F (nI r) name flow x = -2 := by unfold reachA; rw [if_neg (fun q => q hv), if_pos hb]
      rw [e] at h
      have h := h G F (fun _ _ => rfl) (fun _ _ => rfl)
      intro call hcall X hX; refine hX 1000 0 _ _ _ ?_
      repeat' (first | (intro hc) | (refine And.intro ?_ ?_) | (exact absurd nI_0 ‹cmpF 0 (nI 0) 0›) | (exact absurd ‹cmpT 0 (nI 1) 0› nI1_ne) | (exact absurd nI_0 ‹cmpT 1 (nI 0) 0›) | (exact absurd ‹cmpF 1 (nI 1) 0› nI1_ne) | (show wp _ _ _ _ _ _ _ _ _ _ _ _; conv => whnf) | (simp (disch := omega) only [nI_add, nI_mul, setN_now, setN_put, nI_cl, Nat.add_zero]) | (refine hcall _ _ _ _ ?_; first | (refine r_isRouter hw.r1 (by omega) ?_) | (refine r_isLetter ?_) | (refine r_isIn ?_) | fail))
      all_goals first
        | exact h
        | ((try clear hX hcall); (try clear h); simp (disch := omega) only [cmpT, cmpF, bI_eq0, bI_ne0, Classical.not_not, nI_toI, setN_now, nI_cl, alen20, Int32.toInt_zero, hw.s1, hw.t1, hw.r1, nI_add, nI_mul, takeL, setL, setN_put] at *; first | omega | contradiction)
        | (exfalso; clear h; simp only [cmpT, cmpF, bI_eq0, bI_ne0, Classical.not_not] at *; (try simp (disch := omega) only [nI_toI] at *); omega)
  · have e : reachA F v name flow x = -1 := by unfold reachA; rw [if_pos hv]
    rw [e] at h
    have h := h G F (fun _ _ => rfl) (fun _ _ => rfl)
    intro call hcall X hX; refine hX 1000 0 _ _ _ ?_
    repeat' (first | (intro hc) | (refine And.intro ?_ ?_) | (exact absurd nI_0 ‹cmpF 0 (nI 0) 0›) | (exact absurd ‹cmpT 0 (nI 1) 0› nI1_ne) | (exact absurd nI_0 ‹cmpT 1 (nI 0) 0›) | (exact absurd ‹cmpF 1 (nI 1) 0› nI1_ne) | (show wp _ _ _ _ _ _ _ _ _ _ _ _; conv => whnf) | (simp (disch := omega) only [nI_add, nI_mul, setN_now, setN_put, nI_cl, Nat.add_zero]) | (refine hcall _ _ _ _ ?_; first | (refine r_isRouter hw.r1 (by omega) ?_) | fail))
    all_goals first
      | exact h
      | ((try clear hX hcall); (try clear h); simp (disch := omega) only [cmpT, cmpF, bI_eq0, bI_ne0, Classical.not_not, nI_toI, setN_now, nI_cl, alen20, Int32.toInt_zero, hw.s1, hw.t1, hw.r1, nI_add, nI_mul, takeL, setL, setN_put] at *; omega)
set_option maxHeartbeats 4000000 in
set_option maxRecDepth 100000 in
theorem r_wouldAsk (hw : WF F B) (hh : (F 0).toInt ≤ 9999) (h : ∀ G' F', (∀ i, i < 509 → F' i = F i) → (∀ i, i < 3563 → G' i = G i) → Q (some (.inl (askA F v name flow))) (setN (setK s G') F')) : wpM L xs codT retT (f + 8) m_X10_wouldAsk [.inr (10, 0), .inl v, .inl name, .inl flow] (setN (setK s G) F) Q := by
  have r2 := hw.r2
  have hh0 := hw.h
  by_cases hv : iN v (cR F)
  · obtain ⟨r, hp, hpl⟩ := iN_nn hv (by omega)
    subst hp
    have en : nn (nI r) = r := nI_cl (by omega)
    by_cases hb : iN name 256 ∧ iN flow 100
    · have e : askA F (nI r) name flow = (sendF F r name flow).2 (165 + 6 * r + 1) - F (165 + 6 * r + 1) := by unfold askA; rw [if_neg (fun q => q hv), if_neg (fun q => q hb), en]
      rw [e] at h
      have hl := iN_let hb
      have hpos := (send_ok (flow := flow) hw hpl hb.1 hb.2.1).2.2
      have h := h _ _ (fun i hi => back_F (G := G) (F' := (sendF F r name flow).2) hi) (fun i hi => keep_lo (F := F) hi)
      intro call hcall X hX; refine hX 1000 0 _ _ _ ?_
      repeat' (first | (intro hc) | (refine And.intro ?_ ?_) | (exact absurd nI_0 ‹cmpF 0 (nI 0) 0›) | (exact absurd ‹cmpT 0 (nI 1) 0› nI1_ne) | (exact absurd nI_0 ‹cmpT 1 (nI 0) 0›) | (exact absurd ‹cmpF 1 (nI 1) 0› nI1_ne) | (show wp _ _ _ _ _ _ _ _ _ _ _ _; conv => whnf) | (simp (disch := omega) only [nI_add, nI_mul, setN_now, setN_put, nI_cl, Nat.add_zero]) | (refine hcall _ _ _ _ ?_; first | (refine r_isRouter hw.r1 (by omega) ?_) | (refine r_isLetter ?_) | (refine r_isIn ?_) | (refine r_keeps (by omega) ?_) | (refine r_routerAt ?_) | (refine r_sends hw hpl ?_) | (refine r_brings (by omega) ?_) | fail))
      all_goals first
        | exact h
        | (clear h; (try clear hX hcall); (try clear h); simp (disch := omega) only [cmpT, cmpF, bI_eq0, bI_ne0, Classical.not_not, nI_toI, setN_now, nI_cl, alen20, Int32.toInt_zero, hw.s1, hw.t1, hw.r1, nI_add, nI_mul, takeL, setL, setN_put] at *; first | omega | contradiction)
    · have e : askA F (nI r) name flow = -2 := by unfold askA; rw [if_neg (fun q => q hv), if_pos hb]
      rw [e] at h
      have hl := iN_nlet hb
      have h := h G F (fun _ _ => rfl) (fun _ _ => rfl)
      intro call hcall X hX; refine hX 1000 0 _ _ _ ?_
      repeat' (first | (intro hc) | (refine And.intro ?_ ?_) | (exact absurd nI_0 ‹cmpF 0 (nI 0) 0›) | (exact absurd ‹cmpT 0 (nI 1) 0› nI1_ne) | (exact absurd nI_0 ‹cmpT 1 (nI 0) 0›) | (exact absurd ‹cmpF 1 (nI 1) 0› nI1_ne) | (show wp _ _ _ _ _ _ _ _ _ _ _ _; conv => whnf) | (simp (disch := omega) only [nI_add, nI_mul, setN_now, setN_put, nI_cl, Nat.add_zero]) | (refine hcall _ _ _ _ ?_; first | (refine r_isRouter hw.r1 (by omega) ?_) | (refine r_isLetter ?_) | (refine r_isIn ?_) | fail))
      all_goals first
        | exact h
        | ((try clear hX hcall); (try clear h); simp (disch := omega) only [cmpT, cmpF, bI_eq0, bI_ne0, Classical.not_not, nI_toI, setN_now, nI_cl, alen20, Int32.toInt_zero, hw.s1, hw.t1, hw.r1, nI_add, nI_mul, takeL, setL, setN_put] at *; first | omega | contradiction)
  · have e : askA F v name flow = -1 := by unfold askA; rw [if_pos hv]
    rw [e] at h
    have h := h G F (fun _ _ => rfl) (fun _ _ => rfl)
    intro call hcall X hX; refine hX 1000 0 _ _ _ ?_
    repeat' (first | (intro hc) | (refine And.intro ?_ ?_) | (exact absurd nI_0 ‹cmpF 0 (nI 0) 0›) | (exact absurd ‹cmpT 0 (nI 1) 0› nI1_ne) | (exact absurd nI_0 ‹cmpT 1 (nI 0) 0›) | (exact absurd ‹cmpF 1 (nI 1) 0› nI1_ne) | (show wp _ _ _ _ _ _ _ _ _ _ _ _; conv => whnf) | (simp (disch := omega) only [nI_add, nI_mul, setN_now, setN_put, nI_cl, Nat.add_zero]) | (refine hcall _ _ _ _ ?_; first | (refine r_isRouter hw.r1 (by omega) ?_) | fail))
    all_goals first
      | exact h
      | ((try clear hX hcall); (try clear h); simp (disch := omega) only [cmpT, cmpF, bI_eq0, bI_ne0, Classical.not_not, nI_toI, setN_now, nI_cl, alen20, Int32.toInt_zero, hw.s1, hw.t1, hw.r1, nI_add, nI_mul, takeL, setL, setN_put] at *; omega)
end REF24
