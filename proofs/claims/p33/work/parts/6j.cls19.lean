/-! THE CLASS: sending -/
section CLS19
variable {L : Nat} {xs : Nat → Int32} {f i k r p q c j n B b w w' m sd : Nat} {x y v a z l lo v0 v1 name flow place which : Int32} {s s' s2 s3 t : St} {F G C F' U u : Fm} {Q : Option MV → St → Prop} {P : Nat → Nat}
theorem RepW_plus (hw : WF F B) (hp : permOk s) (h10 : w < 10) (hr : r < cR F) (hR : RepW s w F) (hk : k < 6) (h0 : 0 < k) : RepW (putV s 4 (4 * w + r) (k + 1) (F (165 + 6 * r + k) + nI 1)) w (plusF F (165 + 6 * r + k)) := by
  rw [← putF_plus]
  exact RepW_cnt hw hp h10 hr hR hk h0
theorem c_askE {A : Bool × Fm} (hw : WF F B) (h10 : w < 10) (hp : permOk s) (hR : RepW s w F) (hr : r < cR F) (hn : iN name 256) (e : asksF F r name = A) (h : ∀ s', Upd s s' w → RepW s' w A.2 → Q (some (.inl (bI (A.1 = true)))) s') : wpM L xs codT retT (f + 4) m_X8_ask [.inr (8, w), .inr (4, 4 * w + r), .inl name] s Q := c_ask hw h10 hp hR hr hn (by rw [e]; exact h)
theorem c_endedE (hw : WF F B) (hp : permOk s) (h10 : w < 10) (hr : r < cR F) (hR : RepW s w F) (hx : x = F 0) (e : endF r (cM F r) F = G) (h : ∀ s', Upd s s' w → permOk s' → RepW s' w G → Q none s') : wpM L xs codT retT (f + 3) m_X4_dropEnded [.inr (4, 4 * w + r), .inl x] s Q := c_endedW hw hp h10 hr hR hx (by rw [e]; exact h)
set_option maxHeartbeats 4000000 in
set_option maxRecDepth 100000 in
theorem RepW_mark {y : Nat} (hw : WF F B) (hp : permOk s) (h10 : w < 10) (hr : r < cR F) (hR : RepW s w F) (h0 : 0 < cM F r) (hy : s.2 (4 * w + r) 0 = y) : RepW (putV s 2 y 5 (nI 1)) w (fun i => if i = mA r 0 + 3 then nI 1 else F i) := by
  have r2 := hw.r2
  have t2 := hw.t2
  have m0 := mA_eq r 0
  have m5 := mA_eq r 5
  have rr := hR.router hr
  have wr := hw.router hr
  have w5 := wr.2.1
  have i40 : 4 * w + r < 40 := by omega
  have hy5 := perm_5 hp i40 (j := 0) (by omega)
  rw [hy] at hy5
  have eF : ∀ i, i ≠ mA r 0 + 3 → (fun i => if i = mA r 0 + 3 then nI 1 else F i) i = F i := fun i hi => if_neg hi
  have eF3 : (fun i => if i = mA r 0 + 3 then nI 1 else F i) (mA r 0 + 3) = nI 1 := if_pos rfl
  generalize hG : (fun i => if i = mA r 0 + 3 then nI 1 else F i) = G at *
  have ec : cM G r = cM F r := by unfold cM; rw [eF _ (by omega)]
  refine RepW_router hw hp h10 hr hR (fun c j m e => putV_ne (by
    by_cases e1 : c = 2
    · right; left; intro e2; subst e1; subst e2; exact e hy5
    · exact Or.inl e1)) (fun _ _ _ => rfl) (fun i h1 h2 => eF i (by omega)) ?_
  refine ⟨?_, ?_, ?_, ?_, ?_, ?_, fun p hp' => ?_⟩
  · rw [putV_ne (by omega), eF _ (by omega)]; exact rr.1
  · rw [putV_ne (by omega), eF _ (by omega)]; exact rr.2.1
  · rw [putV_ne (by omega), eF _ (by omega)]; exact rr.2.2.1
  · rw [putV_ne (by omega), eF _ (by omega)]; exact rr.2.2.2.1
  · rw [putV_ne (by omega), eF _ (by omega)]; exact rr.2.2.2.2.1
  · rw [putV_ne (by omega), eF _ (by omega)]; exact rr.2.2.2.2.2.1
  · rw [ec] at hp'
    have mp := mA_eq r p
    have hm := rr.2.2.2.2.2.2 p hp'
    have wk := (wr.2.2.1 p hp').2.1
    have e0 : G (mA r p) = F (mA r p) := eF _ (by omega)
    show repMap (putV s 2 y 5 (nI 1)) (s.2 (4 * w + r) p) G r p
    unfold repMap at hm ⊢
    rw [e0, eF (mA r p + 1) (by omega), eF (mA r p + 2) (by omega), eF (29 + 17 * nn (F (mA r p))) (by omega), eF (29 + 17 * nn (F (mA r p)) + 1) (by omega)]
    have cc : cellsRep (putV s 2 y 5 (nI 1)) (80 + s.2 (4 * w + r) p) G (mA r p + 4) := cellsRep_cg2 (s := s) (fun k _ => putV_ne (by omega)) (fun i hi => eF _ (by omega)) hm.2.2.2.2.2.2
    rw [putV_ne (by omega), putV_ne (by omega), putV_ne (by omega), putV_ne (c := 2) (a := 1) (by omega), putV_ne (c := 2) (a := 1) (by omega)]
    refine ⟨hm.1, hm.2.1, hm.2.2.1, ?_, hm.2.2.2.2.1, hm.2.2.2.2.2.1, cc⟩
    by_cases h00 : p = 0
    · subst h00
      rw [hy, putV_at, eF3]
    · have ne : s.2 (4 * w + r) p ≠ y := fun g => by
        have := (hp (4 * w + r) i40).2 p 0 (by omega) (by omega) (g.trans hy.symm)
        omega
      rw [putV_ne (by omega), eF _ (by omega)]
      exact hm.2.2.2.1
set_option maxHeartbeats 4000000 in
set_option maxRecDepth 100000 in
theorem c_sendLetter (hw : WF F B) (h10 : w < 10) (hp : permOk s) (hR : RepW s w F) (h : ∀ s', Upd s s' w → RepW s' w (letterF F v name flow).2 → Q (some (.inl (letterF F v name flow).1)) s') : wpM L xs codT retT (f + 5) m_X8_sendLetter [.inr (8, w), .inl v, .inl name, .inl flow] s Q := by
  have r2 := hw.r2
  have e3 : s.1 8 w 5 = nI (cR F) := hR.r1.trans hw.r1
  by_cases hv : iN v (cR F)
  · obtain ⟨r, hp1, hr⟩ := iN_nn hv (by omega)
    subst hp1
    have en : nn (nI r) = r := nI_cl (by omega)
    by_cases hb1 : iN name 256
    · by_cases hb2 : iN flow 100
      · have e : letterF F (nI r) name flow = sendF F r name flow := by unfold letterF; rw [if_neg (fun q => q hv), if_neg (fun q => q ⟨hb1, hb2⟩), en]
        rw [e] at h
        clear e
        have hf := hb2.1
        have hw1 : WF (plusF F (165 + 6 * r + 3)) B := WF_cnt (r := r) hw (by omega) (fun i hi => plus_o (by omega))
        have hr1 : r < cR (plusF F (165 + 6 * r + 3)) := by unfold cR; rw [plus_o (by omega)]; exact hr
        have hR1 := RepW_plus hw hp h10 hr hR (k := 3) (by omega) (by omega)
        have hU1 : Upd s (putV s 4 (4 * w + r) (3 + 1) (F (165 + 6 * r + 3) + nI 1)) w := Upd_put (own_4 (by omega))
        have hp1 := hU1.2.2 hp
        have le3 : s.1 4 (4 * w + r) 4 = F (165 + 6 * r + 3) := (hR.router hr).2.2.2.1
        obtain ⟨e1, e2, e3'⟩ := end_ok (cM (plusF F (165 + 6 * r + 3)) r) _ (Nat.le_refl _) hw1 hr1
        have hho := hR1.h1
        unfold sendF at h
        dsimp only at h
        generalize hx1 : F (165 + 6 * r + 3) + nI 1 = x1 at *
        generalize hF1 : plusF F (165 + 6 * r + 3) = F1 at *
        generalize hF2 : endF r (cM F1 r) F1 = F2 at *
        have hr2 : r < cR F2 := by rw [cR_of e2]; exact hr1
        have w2 := e1.router hr2
        intro call hcall X hX
        have rest : ∀ s1 U x, Upd s s1 w → RepW s1 w U → WF U B → r < cR U → 0 < cM U r → (∀ s', Upd s s' w → RepW s' w (restU U r name flow).2 → Q (some (.inl (restU U r name flow).1)) s') → X 122 [.inr (8, w), .inl (nI r), .inl name, .inl flow, .inr (4, 4 * w + r), .inl x] [] s1 := by
          clear h
          intro s1 U x u1 R1 W1 c1 c0 h
          have p1 := u1.2.2 hp
          have rrU := R1.router c1
          have wU := W1.router c1
          have hm := rrU.2.2.2.2.2.2 0 c0
          have wm := wU.2.2.1 0 c0
          have hmark := RepW_mark W1 p1 h10 c1 R1 c0 rfl
          have hy20 := perm_own p1 (i := 4 * w + r) (j := 0) (by omega) (by omega)
          unfold restU at h
          by_cases hA : isAtF U (nn (U (mA r 0))) (choF U (mA r 0 + 4) flow)
          · rw [if_pos hA] at h
            dsimp only at h
            have hne : ¬ choF U (mA r 0 + 4) flow = -1 := fun q => by
              have := (isAt_pos W1 wm.2.1 hA).1
              rw [q] at this
              exact absurd this (by decide)
            have h : ∀ s', s' = (if U (mA r 0 + 1) = U (29 + 17 * nn (U (mA r 0)) + 3) then s1 else putV s1 2 (s1.2 (4 * w + r) 0) 5 (nI 1)) → Q (some (.inl (choF U (mA r 0 + 4) flow))) s' := by
              intro s' hs'
              by_cases hq : U (mA r 0 + 1) = U (29 + 17 * nn (U (mA r 0)) + 3)
              · rw [if_pos hq] at hs' h
                subst hs'
                exact h _ u1 R1
              · rw [if_neg hq] at hs' h
                subst hs'
                exact h _ (u1.put (show s1.2 (4 * w + r) 0 / 20 = w by omega)) hmark
            refine hX 1000 122 _ _ _ ?_
            repeat' (first | (intro hc) | (refine And.intro ?_ ?_) | (exact absurd nI_0 ‹cmpF 0 (nI 0) 0›) | (exact absurd ‹cmpT 0 (nI 1) 0› nI1_ne) | (exact absurd nI_0 ‹cmpT 1 (nI 0) 0›) | (exact absurd ‹cmpF 1 (nI 1) 0› nI1_ne) | (show wp _ _ _ _ _ _ _ _ _ _ _ _; conv => whnf) | (simp (disch := omega) only [nI_cl]) | (simp (disch := omega) only [nI_add, nI_mul, setN_now, setN_put, nI_cl, Nat.add_zero]) | (refine hcall _ _ _ _ ?_; first | (refine c_placeByMap W1 R1 hm wm hf (fun _ s2 hs2 => ?_) (fun hno => absurd hA hno)) | fail))
            all_goals first
              | exact h _ hs2
              | (exfalso; exact hne (by assumption : cmpT 0 (choF U (mA r 0 + 4) flow) (-1)))
              | (simp (disch := omega) only [nI_toI, nI_cl, nI_add, nI_mul, alen11, alen12, alen13, alen14, alen15, alen16, alen17, alen18, alen19]; omega)
          · rw [if_neg hA] at h
            have hV : WF (plusF U (165 + 6 * r + 5)) B := WF_cnt (r := r) W1 (by omega) (fun i hi => plus_o (by omega))
            have vR : r < cR (plusF U (165 + 6 * r + 5)) := by unfold cR; rw [plus_o (by omega)]; exact c1
            have vC : cM (plusF U (165 + 6 * r + 5)) r = cM U r := by unfold cM; rw [plus_o (by omega)]
            have hRV := RepW_plus W1 p1 h10 c1 R1 (k := 5) (by omega) (by omega)
            have uV : Upd s (putV s1 4 (4 * w + r) (5 + 1) (U (165 + 6 * r + 5) + nI 1)) w := u1.put (own_4 (by omega))
            have pV := uV.2.2 hp
            have o5 : s1.1 4 (4 * w + r) 6 = U (165 + 6 * r + 5) := rrU.2.2.2.2.2.1
            have hD := WF_drop hV vR (p := 0) (by omega)
            have dR : r < cR (dropsF (plusF U (165 + 6 * r + 5)) r 0) := by unfold cR; rw [drops_lo (by omega)]; exact vR
            obtain ⟨a1, a2, a3, a4⟩ := asks_ok (name := name) hD dR
            have aR : r < cR (asksF (dropsF (plusF U (165 + 6 * r + 5)) r 0) r name).2 := by rw [cR_of a2]; exact dR
            have acho := asks_cho (flow := flow) (name := name) hD dR hf
            generalize hAs : asksF (dropsF (plusF U (165 + 6 * r + 5)) r 0) r name = A at *
            obtain ⟨ab, aG⟩ := A
            replace aR : r < cR aG := aR
            replace a1 : WF aG B := a1
            replace a3 : ab = true → 1 ≤ cM aG r := a3
            replace acho : ab = true → 0 ≤ (choF aG (mA r 0 + 4) flow).toInt ∧ (choF aG (mA r 0 + 4) flow).toInt < 32 := acho
            have pr : ∀ s3, Upd s s3 w → RepW s3 w aG → ab = false → Q (some (.inl (proxF name))) (putV s3 4 (4 * w + r) 5 (s3.1 4 (4 * w + r) 5 + nI 1)) := by
              intro s3 u3 R3 hab
              subst hab
              have q5 : s3.1 4 (4 * w + r) 5 = aG (165 + 6 * r + 4) := (R3.router aR).2.2.2.2.1
              rw [q5]
              exact h _ (u3.put (own_4 (by omega))) (RepW_plus a1 (u3.2.2 hp) h10 aR R3 (k := 4) (by omega) (by omega))
            have pc : ∀ s3, Upd s s3 w → RepW s3 w aG → ab = true → Q (some (.inl (noI (choF aG (mA r 0 + 4) flow)))) s3 ∧ cellsRep s3 (80 + s3.2 (4 * w + r) 0) aG (mA r 0 + 4) ∧ ∀ j, j < 3 → slotOk aG (mA r 0 + 4 + 4 * j) := by
              intro s3 u3 R3 hab
              subst hab
              have c3 := a3 rfl
              refine ⟨?_, ((R3.router aR).2.2.2.2.2.2 0 (by omega)).2.2.2.2.2.2, ((a1.router aR).2.2.1 0 (by omega)).2.2.2⟩
              rw [noI_0 (acho rfl).1]
              exact h _ u3 R3
            clear h
            refine hX 1000 122 _ _ _ ?_
            repeat' (first | (intro hc) | (refine And.intro ?_ ?_) | (exact absurd nI_0 ‹cmpF 0 (nI 0) 0›) | (exact absurd ‹cmpT 0 (nI 1) 0› nI1_ne) | (exact absurd nI_0 ‹cmpT 1 (nI 0) 0›) | (exact absurd ‹cmpF 1 (nI 1) 0› nI1_ne) | (show wp _ _ _ _ _ _ _ _ _ _ _ _; conv => whnf) | (rw [o5]) | (simp (disch := omega) only [nI_cl]) | (simp (disch := omega) only [nI_add, nI_mul, setN_now, setN_put, nI_cl, Nat.add_zero]) | (refine hcall _ _ _ _ ?_; first | (refine c_placeByMap W1 R1 hm wm hf (fun hyes => absurd hyes hA) (fun _ => ?_)) | (refine c_dropW hV pV h10 vR hRV (by omega) (fun s2 u2 p2 R2 => ?_)) | (refine c_askE hD h10 p2 R2 dR hb1 hAs (fun s3 u3 R3 => ?_)) | (refine c_goByProxy ?_) | (refine c_placeFor (pc _ (uV.trans (u2.trans u3)) R3 (bI_ne0.mp (by assumption))).2.1 (pc _ (uV.trans (u2.trans u3)) R3 (bI_ne0.mp (by assumption))).2.2 hf ?_) | fail))
            all_goals first
              | exact pr _ (uV.trans (u2.trans u3)) R3 (by have q := bI_eq0.mp (by assumption : bI (ab = true) = 0); cases ab with | true => exact absurd rfl q | false => rfl)
              | exact (pc _ (uV.trans (u2.trans u3)) R3 (bI_ne0.mp (by assumption))).1
              | (exfalso; exact (by assumption : cmpF 0 (-1) (-1)) rfl)
              | (simp (disch := omega) only [nI_toI, nI_cl, nI_add, nI_mul, alen11, alen12, alen13, alen14, alen15, alen16, alen17, alen18, alen19]; omega)
        obtain ⟨a1, a2, a3, a4⟩ := asks_ok (name := name) e1 hr2
        have aR : r < cR (asksF F2 r name).2 := by rw [cR_of a2]; exact hr2
        have aC := asked_cM (F := F2) (name := name) (r := r) (by omega)
        generalize hAs : asksF F2 r name = A at *
        obtain ⟨ab, aG⟩ := A
        replace aR : r < cR aG := aR
        replace a1 : WF aG B := a1
        replace a3 : ab = true → 1 ≤ cM aG r := a3
        replace a4 : ab = false → aG = askedF F2 r name := a4
        have wA := a1.router aR
        have w25 := w2.2.1
        have wA5 := wA.2.1
        refine hX 1000 0 _ _ _ ?_
        cases ho : takeN F2 r name (cM F2 r) with
        | none =>
          rw [ho] at h
          dsimp only at h
          have ePl : ∀ {f : Nat} {s2 : St} {Q : Option MV → St → Prop}, RepW s2 w F2 → Q (some (.inl (-1))) s2 → wpM L xs codT retT (f + 3) m_X4_placeOfSmallest [.inr (4, 4 * w + r), .inl name] s2 Q := fun hR2 h => c_placeOfSmallest e1 hr2 (hR2.router hr2) hb1 (by rw [ho]; exact h)
          have pr : ∀ s3, Upd s s3 w → RepW s3 w aG → ab = false → Q (some (.inl (proxF name))) (putV s3 4 (4 * w + r) 5 (s3.1 4 (4 * w + r) 5 + nI 1)) := by
            intro s3 u3 R3 hab
            subst hab
            have q5 : s3.1 4 (4 * w + r) 5 = aG (165 + 6 * r + 4) := (R3.router aR).2.2.2.2.1
            rw [q5]
            exact h _ (u3.put (own_4 (by omega))) (RepW_plus a1 (u3.2.2 hp) h10 aR R3 (k := 4) (by omega) (by omega))
          have go : ∀ s3, Upd s s3 w → RepW s3 w aG → ab = true → X 122 [.inr (8, w), .inl (nI r), .inl name, .inl flow, .inr (4, 4 * w + r), .inl (-1)] [] s3 := by
            intro s3 u3 R3 hab
            subst hab
            refine rest s3 aG (-1) u3 R3 a1 aR (a3 rfl) ?_
            have e4 : restF aG r 0 name flow = restU aG r name flow := by rw [rest_eq, uses_0]
            rw [← e4]
            exact h
          clear h rest
          repeat' (first | (intro hc) | (refine And.intro ?_ ?_) | (exact absurd nI_0 ‹cmpF 0 (nI 0) 0›) | (exact absurd ‹cmpT 0 (nI 1) 0› nI1_ne) | (exact absurd nI_0 ‹cmpT 1 (nI 0) 0›) | (exact absurd ‹cmpF 1 (nI 1) 0› nI1_ne) | (show wp _ _ _ _ _ _ _ _ _ _ _ _; conv => whnf) | (rw [le3]) | (rw [hx1]) | (simp (disch := omega) only [nI_cl]) | (simp (disch := omega) only [nI_add, nI_mul, setN_now, setN_put, nI_cl, Nat.add_zero]) | (refine hcall _ _ _ _ ?_; first | (refine c_isRouter e3 r2 ?_) | (refine c_sName ?_) | (refine c_sFlow ?_) | (refine c_endedE hw1 hp1 h10 hr1 hR1 hho hF2 (fun s2 u2 p2 R2 => ?_)) | (refine ePl R2 ?_) | (refine c_isPlace ((R2.router hr2).1.trans w2.1) w25 ?_) | (refine c_askE e1 h10 p2 R2 hr2 hb1 hAs (fun s3 u3 R3 => ?_)) | (refine c_dropNo ((R3.router aR).1.trans wA.1) wA5 m1_no ?_) | (refine c_goByProxy ?_) | fail))
          all_goals first
            | exact pr _ (hU1.trans (u2.trans u3)) R3 (by have q := bI_eq0.mp (by assumption : bI (ab = true) = 0); cases ab with | true => exact absurd rfl q | false => rfl)
            | exact go _ (hU1.trans (u2.trans u3)) R3 (bI_ne0.mp (by assumption))
            | (exfalso; exact bF hv (by assumption))
            | (exfalso; exact bF hb1 (by assumption))
            | (exfalso; exact bF hb2 (by assumption))
            | (exfalso; exact bT m1_no (by assumption))
            | (simp (disch := omega) only [nI_toI, nI_cl, nI_add, nI_mul, alen11, alen12, alen13, alen14, alen15, alen16, alen17, alen18, alen19]; omega)
        | some p =>
          rw [ho] at h
          dsimp only at h
          have hpl := takeN_lt _ _ ho
          have hpl2 := iN_k hpl (by omega)
          have mp := mA_eq r p
          have ePl : ∀ {f : Nat} {s2 : St} {Q : Option MV → St → Prop}, RepW s2 w F2 → Q (some (.inl (nI p))) s2 → wpM L xs codT retT (f + 3) m_X4_placeOfSmallest [.inr (4, 4 * w + r), .inl name] s2 Q := fun hR2 h => c_placeOfSmallest e1 hr2 (hR2.router hr2) hb1 (by rw [ho]; exact h)
          have mk : ∀ {s2 : St}, RepW s2 w F2 → s2.1 2 (s2.2 (4 * w + r) p) 5 = F2 (mA r p + 3) := fun hR2 => ((hR2.router hr2).2.2.2.2.2.2 p hpl).2.2.2.1
          by_cases hm : F2 (mA r p + 3) = nI 1
          · rw [if_pos hm] at h
            have mk1 : ∀ {s2 : St}, RepW s2 w F2 → ¬ s2.1 2 (s2.2 (4 * w + r) (nI p).toNatClampNeg) 5 = 0 := fun hR2 q => nI1_ne (hm.symm.trans ((mk hR2).symm.trans (by rw [nI_cl (by omega)] at q; exact q)))
            have dpl : ab = false → p < cM aG r := fun q => by rw [a4 q, aC]; exact hpl
            have pr : ∀ s3, Upd s s3 w → RepW s3 w (dropsF aG r p) → ab = false → Q (some (.inl (proxF name))) (putV s3 4 (4 * w + r) 5 (s3.1 4 (4 * w + r) 5 + nI 1)) := by
              intro s3 u3 R3 hab
              have dp := dpl hab
              subst hab
              have dR : r < cR (dropsF aG r p) := by unfold cR; rw [drops_lo (by omega)]; exact aR
              have q5 : s3.1 4 (4 * w + r) 5 = dropsF aG r p (165 + 6 * r + 4) := (R3.router dR).2.2.2.2.1
              rw [q5]
              exact h _ (u3.put (own_4 (by omega))) (RepW_plus (WF_drop a1 aR dp) (u3.2.2 hp) h10 dR R3 (k := 4) (by omega) (by omega))
            have go : ∀ s3, Upd s s3 w → RepW s3 w aG → ab = true → X 122 [.inr (8, w), .inl (nI r), .inl name, .inl flow, .inr (4, 4 * w + r), .inl (nI p)] [] s3 := by
              intro s3 u3 R3 hab
              subst hab
              refine rest s3 aG (nI p) u3 R3 a1 aR (a3 rfl) ?_
              have e4 : restF aG r 0 name flow = restU aG r name flow := by rw [rest_eq, uses_0]
              rw [← e4]
              exact h
            have ab0 : bI (ab = true) = 0 → ab = false := fun q => by
              have q := bI_eq0.mp q
              cases ab with
              | true => exact absurd rfl q
              | false => rfl
            clear h rest
            repeat' (first | (intro hc) | (refine And.intro ?_ ?_) | (exact absurd nI_0 ‹cmpF 0 (nI 0) 0›) | (exact absurd ‹cmpT 0 (nI 1) 0› nI1_ne) | (exact absurd nI_0 ‹cmpT 1 (nI 0) 0›) | (exact absurd ‹cmpF 1 (nI 1) 0› nI1_ne) | (show wp _ _ _ _ _ _ _ _ _ _ _ _; conv => whnf) | (rw [le3]) | (rw [hx1]) | (simp (disch := omega) only [nI_cl]) | (simp (disch := omega) only [nI_add, nI_mul, setN_now, setN_put, nI_cl, Nat.add_zero]) | (refine hcall _ _ _ _ ?_; first | (refine c_isRouter e3 r2 ?_) | (refine c_sName ?_) | (refine c_sFlow ?_) | (refine c_endedE hw1 hp1 h10 hr1 hR1 hho hF2 (fun s2 u2 p2 R2 => ?_)) | (refine ePl R2 ?_) | (refine c_isPlace ((R2.router hr2).1.trans w2.1) w25 ?_) | (refine c_askE e1 h10 p2 R2 hr2 hb1 hAs (fun s3 u3 R3 => ?_)) | (refine c_dropW a1 (u3.2.2 p2) h10 aR R3 (dpl (ab0 (by assumption))) (fun s4 u4 p4 R4 => ?_)) | (refine c_goByProxy ?_) | fail))
            all_goals first
              | exact pr _ (hU1.trans (u2.trans (u3.trans u4))) R4 (ab0 (by assumption))
              | exact go _ (hU1.trans (u2.trans u3)) R3 (bI_ne0.mp (by assumption))
              | (exfalso; exact bF hv (by assumption))
              | (exfalso; exact bF hb1 (by assumption))
              | (exfalso; exact bF hb2 (by assumption))
              | (exfalso; exact bF hpl2 (by assumption))
              | (exfalso; exact mk1 R2 (by assumption))
              | (simp (disch := omega) only [nI_toI, nI_cl, nI_add, nI_mul, alen11, alen12, alen13, alen14, alen15, alen16, alen17, alen18, alen19]; omega)
          · rw [if_neg hm] at h
            have mk0 : ∀ {s2 : St}, RepW s2 w F2 → s2.1 2 (s2.2 (4 * w + r) (nI p).toNatClampNeg) 5 = 0 := fun {s2} hR2 => (by rw [nI_cl (by omega)]; exact mk hR2 : s2.1 2 (s2.2 (4 * w + r) (nI p).toNatClampNeg) 5 = F2 (mA r p + 3)).trans (((w2.2.2.1 p hpl).2.2.1.resolve_right hm).trans nI_0)
            have go : ∀ s3, Upd s s3 w → RepW s3 w (usesF F2 r p) → X 122 [.inr (8, w), .inl (nI r), .inl name, .inl flow, .inr (4, 4 * w + r), .inl (nI p)] [] s3 := by
              intro s3 u3 R3
              refine rest s3 (usesF F2 r p) (nI p) u3 R3 (WF_uses e1 hr2 hpl) (by unfold cR; rw [uses_lo (by omega)]; exact hr2) (by rw [uses_c]; omega) ?_
              rw [← rest_eq]
              exact h
            clear h rest
            repeat' (first | (intro hc) | (refine And.intro ?_ ?_) | (exact absurd nI_0 ‹cmpF 0 (nI 0) 0›) | (exact absurd ‹cmpT 0 (nI 1) 0› nI1_ne) | (exact absurd nI_0 ‹cmpT 1 (nI 0) 0›) | (exact absurd ‹cmpF 1 (nI 1) 0› nI1_ne) | (show wp _ _ _ _ _ _ _ _ _ _ _ _; conv => whnf) | (rw [le3]) | (rw [hx1]) | (simp (disch := omega) only [nI_cl]) | (simp (disch := omega) only [nI_add, nI_mul, setN_now, setN_put, nI_cl, Nat.add_zero]) | (refine hcall _ _ _ _ ?_; first | (refine c_isRouter e3 r2 ?_) | (refine c_sName ?_) | (refine c_sFlow ?_) | (refine c_endedE hw1 hp1 h10 hr1 hR1 hho hF2 (fun s2 u2 p2 R2 => ?_)) | (refine ePl R2 ?_) | (refine c_isPlace ((R2.router hr2).1.trans w2.1) w25 ?_) | (refine c_frontW e1 p2 h10 hr2 R2 hpl (fun s3 u3 p3 R3 => ?_)) | fail))
            all_goals first
              | exact go _ (hU1.trans (u2.trans u3)) R3
              | (exfalso; exact bF hv (by assumption))
              | (exfalso; exact bF hb1 (by assumption))
              | (exfalso; exact bF hb2 (by assumption))
              | (exfalso; exact bF hpl2 (by assumption))
              | (exfalso; exact (by assumption : ¬ s2.1 2 (s2.2 (4 * w + r) (nI p).toNatClampNeg) 5 = 0) (mk0 R2))
              | (simp (disch := omega) only [nI_toI, nI_cl, nI_add, nI_mul, alen11, alen12, alen13, alen14, alen15, alen16, alen17, alen18, alen19]; omega)
      · have e : letterF F (nI r) name flow = (-2, F) := by unfold letterF; rw [if_neg (fun q => q hv), if_pos (fun q => hb2 q.2)]
        rw [e] at h
        have h := h s Upd.refl hR
        intro call hcall X hX; refine hX 1000 0 _ _ _ ?_
        repeat' (first | (intro hc) | (refine And.intro ?_ ?_) | (exact absurd nI_0 ‹cmpF 0 (nI 0) 0›) | (exact absurd ‹cmpT 0 (nI 1) 0› nI1_ne) | (exact absurd nI_0 ‹cmpT 1 (nI 0) 0›) | (exact absurd ‹cmpF 1 (nI 1) 0› nI1_ne) | (show wp _ _ _ _ _ _ _ _ _ _ _ _; conv => whnf) | (simp (disch := omega) only [nI_add, nI_mul, setN_now, setN_put, nI_cl, Nat.add_zero]) | (refine hcall _ _ _ _ ?_; first | (refine c_isRouter e3 r2 ?_) | (refine c_sName ?_) | (refine c_sFlow ?_) | fail))
        all_goals first
          | exact h
          | (exfalso; exact bF hv (by assumption))
          | (exfalso; exact bF hb1 (by assumption))
          | (exfalso; exact bT hb2 (by assumption))
    · have e : letterF F (nI r) name flow = (-2, F) := by unfold letterF; rw [if_neg (fun q => q hv), if_pos (fun q => hb1 q.1)]
      rw [e] at h
      have h := h s Upd.refl hR
      intro call hcall X hX; refine hX 1000 0 _ _ _ ?_
      repeat' (first | (intro hc) | (refine And.intro ?_ ?_) | (exact absurd nI_0 ‹cmpF 0 (nI 0) 0›) | (exact absurd ‹cmpT 0 (nI 1) 0› nI1_ne) | (exact absurd nI_0 ‹cmpT 1 (nI 0) 0›) | (exact absurd ‹cmpF 1 (nI 1) 0› nI1_ne) | (show wp _ _ _ _ _ _ _ _ _ _ _ _; conv => whnf) | (simp (disch := omega) only [nI_add, nI_mul, setN_now, setN_put, nI_cl, Nat.add_zero]) | (refine hcall _ _ _ _ ?_; first | (refine c_isRouter e3 r2 ?_) | (refine c_sName ?_) | (refine c_sFlow ?_) | fail))
      all_goals first
        | exact h
        | (exfalso; exact bF hv (by assumption))
        | (exfalso; exact bT hb1 (by assumption))
  · have e : letterF F v name flow = (-1, F) := by unfold letterF; rw [if_pos hv]
    rw [e] at h
    have h := h s Upd.refl hR
    intro call hcall X hX; refine hX 1000 0 _ _ _ ?_
    repeat' (first | (intro hc) | (refine And.intro ?_ ?_) | (exact absurd nI_0 ‹cmpF 0 (nI 0) 0›) | (exact absurd ‹cmpT 0 (nI 1) 0› nI1_ne) | (exact absurd nI_0 ‹cmpT 1 (nI 0) 0›) | (exact absurd ‹cmpF 1 (nI 1) 0› nI1_ne) | (show wp _ _ _ _ _ _ _ _ _ _ _ _; conv => whnf) | (simp (disch := omega) only [nI_add, nI_mul, setN_now, setN_put, nI_cl, Nat.add_zero]) | (refine hcall _ _ _ _ ?_; first | (refine c_isRouter e3 r2 ?_) | fail))
    all_goals first
      | exact h
      | (exfalso; exact bT hv (by assumption))
end CLS19
