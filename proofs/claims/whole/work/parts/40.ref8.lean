/-! THE REFERENCE: sends -/
section REF8
variable {L : Nat} {xs : Nat → Int32} {f i k r p q c j n B b : Nat} {x y v a z name flow place : Int32} {s : St} {F G : Fm} {Q : Option MV → St → Prop}
theorem asks_ok (hw : WF F B) (hr : r < cR F) : WF (asksF F r name).2 B ∧ (∀ i, i < 165 → (asksF F r name).2 i = F i) ∧ ((asksF F r name).1 = true → 1 ≤ cM (asksF F r name).2 r) ∧ ((asksF F r name).1 = false → (asksF F r name).2 = askedF F r name) := by
  have h4 := hw.r2
  have hwA := WF_asked (name := name) hw (show r < 4 by omega)
  have hrA : r < cR (askedF F r name) := by unfold cR; rw [asked_o (by omega) (by omega)]; exact hr
  have lo : ∀ i, i < 165 → askedF F r name i = F i := fun i hi => asked_o (by omega) (by omega)
  unfold asksF
  cases ho : ansF (askedF F r name) name with
  | none => exact ⟨hwA, lo, fun h => (nomatch h), fun _ => rfl⟩
  | some k =>
    have hk := ansF_lt ho
    refine ⟨WF_new hwA hrA hk, fun i hi => ?_, fun _ => ?_, fun h => (nomatch h)⟩
    · show newF _ _ _ i = _
      rw [new_lo hwA hrA hi, lo i hi]
    · show 1 ≤ cM (newF _ _ _) r
      rw [(new_cM hwA hrA).1]
      omega
theorem plus_o (h : i ≠ j) : plusF F j i = F i := if_neg h
theorem cR_of (h : ∀ i, i < 165 → G i = F i) : cR G = cR F := by unfold cR; rw [h 3 (by omega)]
theorem asked_cM (hr : r < 4) : cM (askedF F r name) r = cM F r := by unfold cM; rw [asked_o (by omega) (by omega)]
theorem r_takesE {o : Option Nat} (hw : WF F B) (hr : r < cR F) (e1 : endF r (cM F r) F = G) (e2 : takeN G r name (cM G r) = o) (h : Q (some (.inl (optI o (-5)))) (setN s G)) : wpM L xs codT retT (f + 4) m_X10_takes [.inr (10, 0), .inl (nI r), .inl name] (setN s F) Q := r_takes hw hr (by rw [e1, e2]; exact h)
theorem r_asksE {A : Bool × Fm} (hw : WF F B) (hr : r < cR F) (e : asksF F r name = A) (h : Q (some (.inl (bI (A.1 = true)))) (setN s A.2)) : wpM L xs codT retT (f + 6) m_X10_asks [.inr (10, 0), .inl (nI r), .inl name] (setN s F) Q := r_asks hw hr (by rw [e]; exact h)
set_option maxHeartbeats 4000000 in
set_option maxRecDepth 100000 in
theorem r_sends (hw : WF F B) (hr : r < cR F) (h : Q (some (.inl (sendF F r name flow).1)) (setN s (sendF F r name flow).2)) : wpM L xs codT retT (f + 7) m_X10_sends [.inr (10, 0), .inl (nI r), .inl name, .inl flow] (setN s F) Q := by
  have h4 := hw.r2
  have hr4 : r < 4 := by omega
  have hw1 : WF (plusF F (165 + 6 * r + 3)) B := WF_cnt hw hr4 (fun i hi => plus_o (by omega))
  have hr1 : r < cR (plusF F (165 + 6 * r + 3)) := by unfold cR; rw [plus_o (by omega)]; exact hr
  obtain ⟨e1, e2, e3⟩ := end_ok (cM (plusF F (165 + 6 * r + 3)) r) _ (Nat.le_refl _) hw1 hr1
  unfold sendF at h
  dsimp only at h
  generalize hF1 : plusF F (165 + 6 * r + 3) = F1 at *
  generalize hF2 : endF r (cM F1 r) F1 = F2 at *
  have hr2 : r < cR F2 := by rw [cR_of e2]; exact hr1
  have w2 := e1.router hr2
  have w25 := w2.2.1
  intro call hcall X hX
  have rest : ∀ G p, WF G B → r < cR G → p < cM G r → Q (some (.inl (restF G r p name flow).1)) (setN s (restF G r p name flow).2) → X 75 [.inr (10, 0), .inl (nI r), .inl name, .inl flow, .inl (nI p)] [] (setN s G) := by
    clear h
    intro G p hG hrG hp h
    have wp5 := (hG.router hrG).2.1
    have hU := WF_uses hG hrG hp
    have uR : r < cR (usesF G r p) := by unfold cR; rw [uses_lo (by omega)]; exact hrG
    have uC : cM (usesF G r p) r = cM G r := uses_c
    unfold restF at h
    dsimp only at h
    generalize hU' : usesF G r p = U at *
    have wU := hU.router uR
    obtain ⟨m1, m2, -, -⟩ := wU.2.2.1 0 (by omega)
    have ht := hU.t2
    have m0 := mA_eq r 0
    generalize hk : nn (U (mA r 0)) = k at *
    have m1' : U (mA r 0 + 0) = nI k := m1
    have hV : WF (plusF U (165 + 6 * r + 5)) B := WF_cnt hU hr4 (fun i hi => plus_o (by omega))
    have vR : r < cR (plusF U (165 + 6 * r + 5)) := by unfold cR; rw [plus_o (by omega)]; exact uR
    have vC : cM (plusF U (165 + 6 * r + 5)) r = cM G r := by unfold cM; rw [plus_o (by omega)]; exact uC
    have hD := WF_drop hV vR (p := 0) (by omega)
    have dR : r < cR (dropsF (plusF U (165 + 6 * r + 5)) r 0) := by unfold cR; rw [drops_lo (by omega)]; exact vR
    have wV := hV.router vR
    by_cases hA : isAtF U k (choF U (mA r 0 + 4) flow)
    · rw [if_pos hA] at h
      refine hX 1000 75 _ _ _ ?_
      repeat' (first | (intro hc) | (refine And.intro ?_ ?_) | (exact absurd nI_0 ‹cmpF 0 (nI 0) 0›) | (exact absurd ‹cmpT 0 (nI 1) 0› nI1_ne) | (exact absurd nI_0 ‹cmpT 1 (nI 0) 0›) | (exact absurd ‹cmpF 1 (nI 1) 0› nI1_ne) | (show wp _ _ _ _ _ _ _ _ _ _ _ _; conv => whnf) | (rw [hU']) | (rw [m1']) | (simp (disch := omega) only [nI_add, nI_mul, setN_now, setN_put, nI_cl, Nat.add_zero]) | (refine hcall _ _ _ _ ?_; first | (refine r_routerAt ?_) | (refine r_uses hr4 (by omega) ?_) | (refine r_ofMap (by omega) ?_) | (refine r_mapAt ?_) | (refine r_chosen (by omega) ?_) | (refine r_isAt (by omega) ?_) | (refine r_ofSite (by omega) ?_) | fail))
      all_goals (try (clear hX hcall; (try clear h); simp (disch := omega) only [cmpT, cmpF, nI_toI, nI_subI, nI_sub, alen20, alen21, nI_add, nI_mul, setN_now, nI_cl, Int32.toInt_zero] at *; omega))
      all_goals first
        | exact absurd hA (bI_eq0.mp ‹cmpT 0 (bI (isAtF _ _ _)) 0›)
        | (have hq : ¬ U (mA r 0 + 1) = U (29 + 17 * k + 3) := ‹cmpF 0 _ (U (29 + 17 * k + 3))›; rw [if_neg hq] at h; exact h)
        | (have hq : U (mA r 0 + 1) = U (29 + 17 * k + 3) := ‹cmpT 0 _ (U (29 + 17 * k + 3))›; rw [if_pos hq] at h; exact h)
    · rw [if_neg hA] at h
      obtain ⟨a1, a2, a3, a4⟩ := asks_ok (name := name) hD dR
      have aR : r < cR (asksF (dropsF (plusF U (165 + 6 * r + 5)) r 0) r name).2 := by rw [cR_of a2]; exact dR
      generalize hAs : asksF (dropsF (plusF U (165 + 6 * r + 5)) r 0) r name = A at *
      refine hX 1000 75 _ _ _ ?_
      repeat' (first | (intro hc) | (refine And.intro ?_ ?_) | (exact absurd nI_0 ‹cmpF 0 (nI 0) 0›) | (exact absurd ‹cmpT 0 (nI 1) 0› nI1_ne) | (exact absurd nI_0 ‹cmpT 1 (nI 0) 0›) | (exact absurd ‹cmpF 1 (nI 1) 0› nI1_ne) | (show wp _ _ _ _ _ _ _ _ _ _ _ _; conv => whnf) | (rw [hU']) | (rw [m1']) | (rw [putF_plus]) | (simp (disch := omega) only [nI_add, nI_mul, setN_now, setN_put, nI_cl, Nat.add_zero]) | (refine hcall _ _ _ _ ?_; first | (refine r_routerAt ?_) | (refine r_uses hr4 (by omega) ?_) | (refine r_ofMap (by omega) ?_) | (refine r_mapAt ?_) | (refine r_chosen (by omega) ?_) | (refine r_isAt (by omega) ?_) | (refine r_ofSite (by omega) ?_) | (refine r_drops hr4 wV.1 wV.2.1 (by omega) ?_) | (refine r_asksE hD dR hAs ?_) | (refine r_proxy hr4 ?_) | fail))
      all_goals (try (clear hX hcall; (try clear h); simp (disch := omega) only [cmpT, cmpF, nI_toI, nI_subI, nI_sub, alen20, alen21, nI_add, nI_mul, setN_now, nI_cl, Int32.toInt_zero] at *; omega))
      all_goals first
        | exact absurd (bI_ne0.mp ‹cmpF 0 (bI (isAtF _ _ _)) 0›) hA
        | (have hq := bI_ne0.mp ‹cmpF 0 (bI (_ = true)) 0›; obtain ⟨ab, aG⟩ := A; cases hq; exact h)
        | (have hq := bI_eq0.mp ‹cmpT 0 (bI (_ = true)) 0›; obtain ⟨ab, aG⟩ := A; cases ab with | true => exact absurd rfl hq | false => exact h)
  have hX' : ∀ G p, WF G B → r < cR G → p < cM G r → Q (some (.inl (restF G r p name flow).1)) (setN s (restF G r p name flow).2) → X 75 [.inr (10, 0), .inl (nI r), .inl name, .inl flow, .inl (nI p)] [] (setN s G) := rest
  clear rest
  obtain ⟨a1, a2, a3, a4⟩ := asks_ok (name := name) e1 hr2
  have aR : r < cR (asksF F2 r name).2 := by rw [cR_of a2]; exact hr2
  have aC := asked_cM (F := F2) (name := name) hr4
  generalize hAs : asksF F2 r name = A at *
  refine hX 1000 0 _ _ _ ?_
  cases ho : takeN F2 r name (cM F2 r) with
  | none =>
    rw [ho] at h
    dsimp only at h
    repeat' (first | (intro hc) | (refine And.intro ?_ ?_) | (exact absurd nI_0 ‹cmpF 0 (nI 0) 0›) | (exact absurd ‹cmpT 0 (nI 1) 0› nI1_ne) | (exact absurd nI_0 ‹cmpT 1 (nI 0) 0›) | (exact absurd ‹cmpF 1 (nI 1) 0› nI1_ne) | (show wp _ _ _ _ _ _ _ _ _ _ _ _; conv => whnf) | (rw [putF_plus]) | (rw [hF1]) | (exact absurd rfl ‹cmpF 0 (optI none (-5)) (-5)›) | (simp (disch := omega) only [nI_add, nI_mul, setN_now, setN_put, nI_cl, Nat.add_zero]) | (refine hcall _ _ _ _ ?_; first | (refine r_routerAt ?_) | (refine r_takesE hw1 hr1 hF2 ho ?_) | (refine r_asksE e1 hr2 hAs ?_) | (refine r_proxy hr4 ?_) | fail))
    all_goals (try (clear hX hcall; (try clear h); simp (disch := omega) only [cmpT, cmpF, nI_toI, nI_subI, nI_sub, alen20, alen21, nI_add, nI_mul, setN_now, nI_cl, Int32.toInt_zero] at *; omega))
    · have hq := bI_eq0.mp ‹cmpF 1 (bI (A.fst = true)) 0›
      obtain ⟨ab, aG⟩ := A
      cases ab with
      | true => exact absurd rfl hq
      | false => exact h
    · have hq := bI_ne0.mp ‹cmpT 1 (bI (A.fst = true)) 0›
      have a3 := a3 hq
      obtain ⟨ab, aG⟩ := A
      cases hq
      simp only [takeL, setL]
      exact hX' _ 0 a1 aR a3 h
  | some p =>
    rw [ho] at h
    dsimp only at h
    have hp := takeN_lt _ _ ho
    have mp := mA_eq r p
    have wA := a1.router aR
    have dp : bI (A.1 = true) = 0 → p < cM A.2 r := fun q => by
      have q := bI_eq0.mp q
      rw [a4 (by cases hb : A.1 with | true => exact absurd hb q | false => rfl), aC]
      exact hp
    repeat' (first | (intro hc) | (refine And.intro ?_ ?_) | (exact absurd nI_0 ‹cmpF 0 (nI 0) 0›) | (exact absurd ‹cmpT 0 (nI 1) 0› nI1_ne) | (exact absurd nI_0 ‹cmpT 1 (nI 0) 0›) | (exact absurd ‹cmpF 1 (nI 1) 0› nI1_ne) | (show wp _ _ _ _ _ _ _ _ _ _ _ _; conv => whnf) | (rw [putF_plus]) | (rw [hF1]) | (exact absurd ‹cmpT 0 (optI (some p) (-5)) (-5)› (nI_n5 (by omega))) | (rw [show optI (some p) (-5) = nI p from rfl]) | (simp (disch := omega) only [nI_add, nI_mul, setN_now, setN_put, nI_cl, Nat.add_zero]) | (refine hcall _ _ _ _ ?_; first | (refine r_routerAt ?_) | (refine r_takesE hw1 hr1 hF2 ho ?_) | (refine r_ofMap (by omega) ?_) | (refine r_asksE e1 hr2 hAs ?_) | (refine r_proxy hr4 ?_) | (refine r_drops hr4 wA.1 wA.2.1 (dp ‹cmpF 1 (bI (A.fst = true)) 0›) ?_) | fail))
    all_goals (try (clear hX hcall; (try clear h); simp (disch := omega) only [cmpT, cmpF, nI_toI, nI_subI, nI_sub, alen20, alen21, nI_add, nI_mul, setN_now, nI_cl, Int32.toInt_zero] at *; omega))
    · have hq := bI_eq0.mp ‹cmpF 1 (bI (A.fst = true)) 0›
      have hm : F2 (mA r p + 3) = nI 1 := ‹cmpF 1 (F2 (mA r p + 3)) (nI 1)›
      rw [if_pos hm] at h
      obtain ⟨ab, aG⟩ := A
      cases ab with
      | true => exact absurd rfl hq
      | false => exact h
    · have hq := bI_ne0.mp ‹cmpT 1 (bI (A.fst = true)) 0›
      have hm : F2 (mA r p + 3) = nI 1 := ‹cmpF 1 (F2 (mA r p + 3)) (nI 1)›
      rw [if_pos hm] at h
      have a3 := a3 hq
      obtain ⟨ab, aG⟩ := A
      cases hq
      simp only [takeL, setL]
      exact hX' _ 0 a1 aR a3 h
    · have hm : ¬ F2 (mA r p + 3) = nI 1 := ‹cmpT 1 (F2 (mA r p + 3)) (nI 1)›
      rw [if_neg hm] at h
      simp only [takeL, setL]
      exact hX' _ p e1 hr2 hp h
end REF8
