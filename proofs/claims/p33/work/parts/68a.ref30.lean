/-! WHAT EACH CALL LEAVES WELL -/
section WFS
variable {i k r p q c j n B B' b w m : Nat} {x y v a z l lo left name flow place : Int32} {F G : Fm}
/-- well, and the hour is one of the document's -/
def WFh (F : Fm) (B : Nat) : Prop := WF F B ∧ (F 0).toInt ≤ 9999
theorem WFsite_mono (hB : B ≤ B') (h : WFsite F B k) : WFsite F B' k := ⟨h.1, h.2.1, ⟨h.2.2.1.1, by have := h.2.2.1.2; omega⟩, h.2.2.2⟩
theorem WF_mono (hB : B ≤ B') (h : WF F B) : WF F B' := ⟨h.1, h.2.1, h.2.2.1, h.2.2.2.1, h.2.2.2.2.1, h.2.2.2.2.2.1, fun k hk => WFsite_mono hB (h.site hk), h.2.2.2.2.2.2.2⟩
theorem WFh_mono (hB : B ≤ B') (h : WFh F B) : WFh F B' := ⟨WF_mono hB h.1, h.2⟩
theorem WFsite_cg (h : ∀ i, 29 + 17 * k ≤ i → i < 29 + 17 * k + 17 → G i = F i) (q : WFsite F B k) : WFsite G B k := by
  unfold WFsite at q ⊢
  rw [h (29 + 17 * k) (by omega) (by omega), h (29 + 17 * k + 1) (by omega) (by omega), h (29 + 17 * k + 2) (by omega) (by omega), h (29 + 17 * k + 3) (by omega) (by omega), h (29 + 17 * k + 4) (by omega) (by omega)]
  exact ⟨q.1, q.2.1, q.2.2.1, q.2.2.2.1, fun j hj => slotOk_cg (fun i h1 h2 => h i (by omega) (by omega)) (q.2.2.2.2 j hj)⟩
theorem WFserver_cg (h : ∀ i, 5 + 3 * k ≤ i → i < 5 + 3 * k + 3 → G i = F i) (q : WFserver F k) : WFserver G k := by
  unfold WFserver at q ⊢
  rw [h (5 + 3 * k) (by omega) (by omega), h (5 + 3 * k + 1) (by omega) (by omega), h (5 + 3 * k + 2) (by omega) (by omega)]
  exact q
theorem WFr_cg2 (hT : cT F ≤ cT G) (h0 : G (165 + 6 * r) = F (165 + 6 * r)) (h : ∀ i, mA r 0 ≤ i → i < mA r 5 → G i = F i) (q : WFrouter F r) : WFrouter G r := by
  obtain ⟨q1, q2, q3, q4⟩ := q
  have hm : ∀ p, mA r p = mA r 0 + 16 * p := fun p => by unfold mA; omega
  have e : cM G r = cM F r := by unfold cM; rw [h0]
  have h5 := hm 5
  refine ⟨by rw [e, h0]; exact q1, by rw [e]; exact q2, fun p hp => ?_, fun p1 p2 a b => ?_⟩
  · rw [e] at hp
    obtain ⟨t1, t2, t3, t4⟩ := q3 p hp
    have g1 := hm p
    have e0 := h (mA r p) (by omega) (by omega)
    have e3 := h (mA r p + 3) (by omega) (by omega)
    exact ⟨by rw [e0]; exact t1, by rw [e0]; omega, by rw [e3]; exact t3, fun j hj => slotOk_cg (fun i h1 h2 => h i (by omega) (by omega)) (t4 j hj)⟩
  · have g1 := hm p1
    have g2 := hm p2
    rw [h (mA r p1) (by omega) (by omega), h (mA r p2) (by omega) (by omega)]
    exact q4 p1 p2 (by omega) (by omega)
set_option maxHeartbeats 4000000 in
set_option maxRecDepth 100000 in
theorem WF_site1 (hw : WF F B) (hk : k < cT F) (hB : B ≤ B') (h : ∀ i, i < 29 + 17 * k + 2 ∨ 29 + 17 * k + 17 ≤ i → G i = F i) (hs : WFsite G B' k) : WF G B' := by
  have t2 := hw.t2
  have s2 := hw.s2
  have r2 := hw.r2
  have e1 : cS G = cS F := by unfold cS; rw [h 1 (by omega)]
  have e2 : cT G = cT F := by unfold cT; rw [h 2 (by omega)]
  have e3 : cR G = cR F := by unfold cR; rw [h 3 (by omega)]
  refine ⟨?_, ?_, ?_, ?_, ?_, fun k' hk' => ?_, fun k' hk' => ?_, fun r hk' => ?_⟩
  · rw [h 1 (by omega), e1]; exact hw.1
  · rw [h 2 (by omega), e2]; exact hw.2.1
  · rw [h 3 (by omega), e3]; exact hw.2.2.1
  · rw [h 0 (by omega)]; exact hw.h
  · rw [h 4 (by omega)]; exact hw.l
  · exact WFserver_cg (fun i a b => h i (by omega)) (hw.server (by omega))
  · by_cases e : k' = k
    · subst e; exact hs
    · exact WFsite_mono hB (WFsite_cg (fun i a b => h i (by omega)) (hw.site (by omega)))
  · have m0 := mA_eq r 0
    exact WFr_cg2 (by omega) (h _ (by omega)) (fun i a b => h i (by omega)) (hw.router (by omega))
set_option maxHeartbeats 4000000 in
set_option maxRecDepth 100000 in
theorem reg_ok (hw : WFh F B) : WFh (regF F v).2 B := by
  obtain ⟨hw, h9⟩ := hw
  have t2 := hw.t2
  have hh := hw.h
  unfold regF
  by_cases hv : iN v (cT F)
  · rw [if_neg (fun q => q hv)]
    obtain ⟨k, rfl, hk⟩ := iN_nn hv (by omega)
    rw [show nn (nI k) = k from nI_cl (by omega)]
    have ws := hw.site hk
    have wl := ws.2.1
    have ea := add_hour (a := F 0) (x := F (29 + 17 * k + 2)) (by omega) (by omega)
    refine ⟨WF_site1 hw hk (Nat.le_refl _) (fun i hi => putF_ne _ _ (by omega)) ?_, by show (putF F _ _ 0).toInt ≤ 9999; rw [putF_ne _ _ (by omega)]; exact h9⟩
    unfold WFsite
    dsimp only
    simp (disch := omega) only [putF_ne, putF_at]
    exact ⟨ws.1, ws.2.1, ws.2.2.1, by omega, fun j hj => slotOk_cg (fun i a b => putF_ne _ _ (by omega)) (ws.2.2.2.2 j hj)⟩
  · rw [if_pos hv]; exact ⟨hw, h9⟩
set_option maxHeartbeats 4000000 in
set_option maxRecDepth 100000 in
theorem unreg_ok (hw : WFh F B) : WFh (unregF F v).2 B := by
  obtain ⟨hw, h9⟩ := hw
  have t2 := hw.t2
  have hh := hw.h
  unfold unregF
  by_cases hv : iN v (cT F)
  · rw [if_neg (fun q => q hv)]
    obtain ⟨k, rfl, hk⟩ := iN_nn hv (by omega)
    rw [show nn (nI k) = k from nI_cl (by omega)]
    by_cases hu : (F 0).toInt < (F (29 + 17 * k + 4)).toInt
    · rw [if_neg (fun q => q hu)]
      have ws := hw.site hk
      refine ⟨WF_site1 hw hk (Nat.le_refl _) (fun i hi => putF_ne _ _ (by omega)) ?_, by show (putF F _ _ 0).toInt ≤ 9999; rw [putF_ne _ _ (by omega)]; exact h9⟩
      unfold WFsite
      dsimp only
      simp (disch := omega) only [putF_ne, putF_at]
      exact ⟨ws.1, ws.2.1, ws.2.2.1, by omega, fun j hj => slotOk_cg (fun i a b => putF_ne _ _ (by omega)) (ws.2.2.2.2 j hj)⟩
    · rw [if_pos hu]; exact ⟨hw, h9⟩
  · rw [if_pos hv]; exact ⟨hw, h9⟩
set_option maxHeartbeats 4000000 in
set_option maxRecDepth 100000 in
theorem life_ok (hw : WFh F B) : WFh (lifeF F v).2 B := by
  obtain ⟨hw, h9⟩ := hw
  unfold lifeF
  by_cases hv : 1 ≤ v.toInt ∧ v.toInt ≤ 100
  · rw [if_neg (fun q => q hv)]
    show WFh (putF F 4 v) B
    have lo : ∀ i, i ≠ 4 → putF F 4 v i = F i := fun i hi => putF_ne _ _ hi
    have s2 := hw.s2
    have t2 := hw.t2
    have r2 := hw.r2
    have e1 : cS (putF F 4 v) = cS F := by unfold cS; rw [lo 1 (by omega)]
    have e2 : cT (putF F 4 v) = cT F := by unfold cT; rw [lo 2 (by omega)]
    have e3 : cR (putF F 4 v) = cR F := by unfold cR; rw [lo 3 (by omega)]
    refine ⟨⟨?_, ?_, ?_, ?_, ?_, fun k' hk' => ?_, fun k' hk' => ?_, fun r hk' => ?_⟩, by show (putF F 4 v 0).toInt ≤ 9999; rw [lo 0 (by omega)]; exact h9⟩
    · rw [lo 1 (by omega), e1]; exact hw.1
    · rw [lo 2 (by omega), e2]; exact hw.2.1
    · rw [lo 3 (by omega), e3]; exact hw.2.2.1
    · rw [lo 0 (by omega)]; exact hw.h
    · rw [putF_at]; exact hv
    · exact WFserver_cg (fun i a b => lo i (by omega)) (hw.server (by omega))
    · exact WFsite_cg (fun i a b => lo i (by omega)) (hw.site (by omega))
    · have m0 := mA_eq r 0
      exact WFr_cg2 (by omega) (lo _ (by omega)) (fun i a b => lo i (by omega)) (hw.router (by omega))
  · rw [if_pos hv]; exact ⟨hw, h9⟩
set_option maxHeartbeats 4000000 in
set_option maxRecDepth 100000 in
theorem pass_ok (hw : WFh F B) : WFh (passF F v).2 B := by
  obtain ⟨hw, h9⟩ := hw
  have hh := hw.h
  unfold passF
  by_cases hv : 1 ≤ v.toInt ∧ v.toInt ≤ 99
  · rw [if_neg (fun q => q hv)]
    have ea := add_hour (a := F 0) (x := v) (by omega) (by omega)
    by_cases hu : 9999 < (F 0 + v).toInt
    · rw [if_pos hu]; exact ⟨hw, h9⟩
    · rw [if_neg hu]
      exact ⟨WF_hour hw (by omega), by show (putF F 0 (F 0 + v) 0).toInt ≤ 9999; rw [putF_at]; omega⟩
  · rw [if_pos hv]; exact ⟨hw, h9⟩
set_option maxHeartbeats 4000000 in
set_option maxRecDepth 100000 in
theorem forget_ok (hw : WFh F B) : WFh (forgetF F v).2 B := by
  obtain ⟨hw, h9⟩ := hw
  have r2 := hw.r2
  unfold forgetF
  by_cases hv : iN v (cR F)
  · rw [if_neg (fun q => q hv)]
    obtain ⟨k, rfl, hk⟩ := iN_nn hv (by omega)
    rw [show nn (nI k) = k from nI_cl (by omega)]
    show WFh (putF F (165 + 6 * k) (nI 0)) B
    refine ⟨WF_upd hw (fun i hi => putF_ne _ _ (by omega)) (fun r hr => ?_), by show (putF F _ _ 0).toInt ≤ 9999; rw [putF_ne _ _ (by omega)]; exact h9⟩
    by_cases e : r = k
    · subst e
      have e0 : cM (putF F (165 + 6 * r) (nI 0)) r = 0 := by unfold cM; rw [putF_at]; decide
      refine ⟨by rw [e0, putF_at], by omega, fun p hp => absurd hp (by omega), fun p1 p2 h1 => absurd h1 (by omega)⟩
    · have m0 := mA_eq r 0
      have eT : cT (putF F (165 + 6 * k) (nI 0)) = cT F := by unfold cT; rw [putF_ne _ _ (by omega)]
      exact WFr_cg2 (by omega) (putF_ne _ _ (by omega)) (fun i a b => putF_ne _ _ (by omega)) (hw.router hr)
  · rw [if_pos hv]; exact ⟨hw, h9⟩
set_option maxHeartbeats 4000000 in
set_option maxRecDepth 100000 in
theorem letter_ok (hw : WFh F B) : WFh (letterF F v name flow).2 B := by
  obtain ⟨hw, h9⟩ := hw
  have r2 := hw.r2
  unfold letterF
  by_cases hv : iN v (cR F)
  · rw [if_neg (fun q => q hv)]
    obtain ⟨k, rfl, hk⟩ := iN_nn hv (by omega)
    rw [show nn (nI k) = k from nI_cl (by omega)]
    by_cases hb : iN name 256 ∧ iN flow 100
    · rw [if_neg (fun q => q hb)]
      obtain ⟨a1, a2, a3⟩ := send_ok (flow := flow) hw hk hb.1 hb.2.1
      exact ⟨a1, by rw [a2 0 (by omega)]; exact h9⟩
    · rw [if_pos hb]; exact ⟨hw, h9⟩
  · rw [if_pos hv]; exact ⟨hw, h9⟩
end WFS
