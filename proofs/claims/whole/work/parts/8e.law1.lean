/-! THE LAW: recorded calls and looks -/
section LAW1
variable {L : Nat} {xs : Nat → Int32} {f i n m j r p B : Nat} {x y v a z l name flow : Int32} {s s1 : St} {F G : Fm} {T : Nat → Nat} {Q : Option MV → St → Prop} {Q0 : Option MV → St → Prop} {X : Nat → List MV → List MV → St → Prop} {call : Nat → List MV → St → (Option MV → St → Prop) → Prop}
abbrev lsL (i : Nat) : List MV := [.inr (24, 0), .inr (9, 0), .inr (10, 0), .inl (nI i)]
abbrev walkL (call : Nat → List MV → St → (Option MV → St → Prop) → Prop) (L : Nat) (xs : Nat → Int32) (Q : Option MV → St → Prop) (X : Nat → List MV → List MV → St → Prop) : Prop := ∀ N pc ls st z, wp call L xs (retT m_L_law) Q X (codT m_L_law) N (behind (fromPc (codT m_L_law) pc)) ls st z → X pc ls st z
abbrev callL (call : Nat → List MV → St → (Option MV → St → Prop) → Prop) (L : Nat) (xs : Nat → Int32) (f : Nat) : Prop := ∀ (m : Nat) (as : List MV) (s : St) (Q : Option MV → St → Prop), wpM L xs codT retT (f + 10) m as s Q → call m as s Q
theorem Rel.hw (h : Rel s F G n m T B) : WF F B := h.1.2.1.2.1
theorem Rel.hn (h : Rel s F G n m T B) : n ≤ 5 := by obtain ⟨o, hh⟩ := h.1.2.2.1; exact hh.2.1
theorem Rel.hs (h : Rel s F G n m T B) (hf : Fr s s1) : s1.1 10 0 3 = nI n := (hf 10 0 3 (by omega)).trans h.2.1.2.2
theorem Rel.N (h : Rel s F G n m T B) : setN s F = s := by
  have e := h.2.1.1
  subst e
  exact setN_self s
set_option maxHeartbeats 4000000 in
set_option maxRecDepth 100000 in
theorem r_sendC (hw : WF F B) (hn : n ≤ 5) (hs : s.1 10 0 3 = nI n) (h0 : iN name 256 ∧ iN flow 100 → ∀ r, r < cR F → 0 ≤ (sendF F r name flow).1.toInt) (h : Q (some (.inl (letterF F v name flow).1)) (doneS s G F n (letterF F v name flow))) : wpM L xs codT retT (f + 8) m_X10_send [.inr (10, 0), .inl v, .inl name, .inl flow] (setN (setK s G) F) Q := by
  have r2 := hw.r2
  by_cases hv : iN v (cR F)
  · obtain ⟨r, hp, hpl⟩ := iN_nn hv (by omega)
    subst hp
    have en : nn (nI r) = r := nI_cl (by omega)
    by_cases hb : iN name 256 ∧ iN flow 100
    · have e : letterF F (nI r) name flow = sendF F r name flow := by unfold letterF; rw [if_neg (fun q => q hv), if_neg (fun q => q hb), en]
      have hl : (0 ≤ name.toInt ∧ name.toInt ≤ 255) ∧ 0 ≤ flow.toInt ∧ flow.toInt ≤ 99 := by omega
      have h0 := h0 hb r hpl
      intro call hcall X hX; refine hX 1000 0 _ _ _ ?_
      repeat' (first | (intro hc) | (refine And.intro ?_ ?_) | (exact absurd nI_0 ‹cmpF 0 (nI 0) 0›) | (exact absurd ‹cmpT 0 (nI 1) 0› nI1_ne) | (exact absurd nI_0 ‹cmpT 1 (nI 0) 0›) | (exact absurd ‹cmpF 1 (nI 1) 0› nI1_ne) | (show wp _ _ _ _ _ _ _ _ _ _ _ _; conv => whnf) | (simp (disch := omega) only [nI_add, nI_mul, setN_now, setN_put, nI_cl, Nat.add_zero]) | (refine hcall _ _ _ _ ?_; first | (refine r_isRouter hw.r1 (by omega) ?_) | (refine r_isLetter ?_) | (refine r_records hn hs ?_) | (refine r_sends hw hpl ?_) | fail))
      all_goals (try ((try clear hX hcall); (try clear h); simp (disch := omega) only [cmpT, cmpF, bI_eq0, bI_ne0, Classical.not_not, nI_toI, setN_now, nI_cl, alen20, Int32.toInt_zero, hw.s1, hw.t1, hw.r1, nI_add, nI_mul, takeL, setL, setN_put] at *; first | omega | contradiction))
      exact doneS_p (F' := (sendF F r name flow).2) h (by rw [e]) h0
    · have e : letterF F (nI r) name flow = (-2, F) := by unfold letterF; rw [if_neg (fun q => q hv), if_pos hb]
      have hl : ¬ ((0 ≤ name.toInt ∧ name.toInt ≤ 255) ∧ 0 ≤ flow.toInt ∧ flow.toInt ≤ 99) := by omega
      intro call hcall X hX; refine hX 1000 0 _ _ _ ?_
      repeat' (first | (intro hc) | (refine And.intro ?_ ?_) | (exact absurd nI_0 ‹cmpF 0 (nI 0) 0›) | (exact absurd ‹cmpT 0 (nI 1) 0› nI1_ne) | (exact absurd nI_0 ‹cmpT 1 (nI 0) 0›) | (exact absurd ‹cmpF 1 (nI 1) 0› nI1_ne) | (show wp _ _ _ _ _ _ _ _ _ _ _ _; conv => whnf) | (simp (disch := omega) only [nI_add, nI_mul, setN_now, setN_put, nI_cl, Nat.add_zero]) | (refine hcall _ _ _ _ ?_; first | (refine r_isRouter hw.r1 (by omega) ?_) | (refine r_isLetter ?_) | (refine r_records hn hs ?_) | fail))
      all_goals first
        | exact doneS_n h e (by decide)
        | ((try clear hX hcall); (try clear h); simp (disch := omega) only [cmpT, cmpF, bI_eq0, bI_ne0, Classical.not_not, nI_toI, setN_now, nI_cl, alen20, Int32.toInt_zero, hw.s1, hw.t1, hw.r1, nI_add, nI_mul, takeL, setL, setN_put] at *; first | omega | contradiction)
  · have e : letterF F v name flow = (-1, F) := by unfold letterF; rw [if_pos hv]
    intro call hcall X hX; refine hX 1000 0 _ _ _ ?_
    repeat' (first | (intro hc) | (refine And.intro ?_ ?_) | (exact absurd nI_0 ‹cmpF 0 (nI 0) 0›) | (exact absurd ‹cmpT 0 (nI 1) 0› nI1_ne) | (exact absurd nI_0 ‹cmpT 1 (nI 0) 0›) | (exact absurd ‹cmpF 1 (nI 1) 0› nI1_ne) | (show wp _ _ _ _ _ _ _ _ _ _ _ _; conv => whnf) | (simp (disch := omega) only [nI_add, nI_mul, setN_now, setN_put, nI_cl, Nat.add_zero]) | (refine hcall _ _ _ _ ?_; first | (refine r_isRouter hw.r1 (by omega) ?_) | fail))
    all_goals first
      | exact doneS_n h e (by decide)
      | ((try clear hX hcall); (try clear h); simp (disch := omega) only [cmpT, cmpF, bI_eq0, bI_ne0, Classical.not_not, nI_toI, setN_now, nI_cl, alen20, Int32.toInt_zero, hw.s1, hw.t1, hw.r1, nI_add, nI_mul, takeL, setL, setN_put] at *; omega)
theorem q_addServer (hR : Rel s F G n m T B) (hf : Fr s s1) (h : Q (some (.inl (serverF F v a z).1)) (doneS s1 G F n (serverF F v a z))) : wpM L xs codT retT (f + 8) m_X10_addServer [.inr (10, 0), .inl v, .inl a, .inl z] s1 Q := by
  rw [← hR.NK hf]
  exact r_addServer hR.hw hR.hn (hR.hs hf) h
theorem q_addSite (hR : Rel s F G n m T B) (hf : Fr s s1) (h : Q (some (.inl (siteF F a z l).1)) (doneS s1 G F n (siteF F a z l))) : wpM L xs codT retT (f + 8) m_X10_addSite [.inr (10, 0), .inl a, .inl z, .inl l] s1 Q := by
  rw [← hR.NK hf]
  exact r_addSite hR.hw hR.hn (hR.hs hf) h
theorem q_addRouter (hR : Rel s F G n m T B) (hf : Fr s s1) (h : Q (some (.inl (routerF F).1)) (doneS s1 G F n (routerF F))) : wpM L xs codT retT (f + 8) m_X10_addRouter [.inr (10, 0)] s1 Q := by
  rw [← hR.NK hf]
  exact r_addRouter hR.hw hR.hn (hR.hs hf) h
theorem q_setSlot (hR : Rel s F G n m T B) (hB : B < 1000000) (hf : Fr s s1) (h : Q (some (.inl (fillSF F v a z x y).1)) (doneS s1 G F n (fillSF F v a z x y))) : wpM L xs codT retT (f + 8) m_X10_setSlot [.inr (10, 0), .inl v, .inl a, .inl z, .inl x, .inl y] s1 Q := by
  rw [← hR.NK hf]
  exact r_setSlot hR.hw hR.hn (hR.hs hf) hB h
theorem q_emptySlot (hR : Rel s F G n m T B) (hB : B < 1000000) (hf : Fr s s1) (h : Q (some (.inl (vacF F v a).1)) (doneS s1 G F n (vacF F v a))) : wpM L xs codT retT (f + 8) m_X10_emptySlot [.inr (10, 0), .inl v, .inl a] s1 Q := by
  rw [← hR.NK hf]
  exact r_emptySlot hR.hw hR.hn (hR.hs hf) hB h
theorem q_register (hR : Rel s F G n m T B) (hf : Fr s s1) (h : Q (some (.inl (regF F v).1)) (doneS s1 G F n (regF F v))) : wpM L xs codT retT (f + 8) m_X10_register [.inr (10, 0), .inl v] s1 Q := by
  rw [← hR.NK hf]
  exact r_register hR.hw hR.hn (hR.hs hf) h
theorem q_unregister (hR : Rel s F G n m T B) (hf : Fr s s1) (h : Q (some (.inl (unregF F v).1)) (doneS s1 G F n (unregF F v))) : wpM L xs codT retT (f + 8) m_X10_unregister [.inr (10, 0), .inl v] s1 Q := by
  rw [← hR.NK hf]
  exact r_unregister hR.hw hR.hn (hR.hs hf) h
theorem q_setMapLife (hR : Rel s F G n m T B) (hf : Fr s s1) (h : Q (some (.inl (lifeF F v).1)) (doneS s1 G F n (lifeF F v))) : wpM L xs codT retT (f + 8) m_X10_setMapLife [.inr (10, 0), .inl v] s1 Q := by
  rw [← hR.NK hf]
  exact r_setMapLife hR.hw hR.hn (hR.hs hf) h
theorem q_send (hR : Rel s F G n m T B) (hf : Fr s s1) (h : Q (some (.inl (letterF F v name flow).1)) (doneS s1 G F n (letterF F v name flow))) : wpM L xs codT retT (f + 8) m_X10_send [.inr (10, 0), .inl v, .inl name, .inl flow] s1 Q := by
  rw [← hR.NK hf]
  exact r_sendC hR.hw hR.hn (hR.hs hf) (fun hb r hr => (send_ok (flow := flow) hR.hw hr hb.1 hb.2.1).2.2) h
theorem q_pass (hR : Rel s F G n m T B) (hf : Fr s s1) (h : Q (some (.inl (passF F v).1)) (doneS s1 G F n (passF F v))) : wpM L xs codT retT (f + 8) m_X10_pass [.inr (10, 0), .inl v] s1 Q := by
  rw [← hR.NK hf]
  exact r_pass hR.hw hR.hn (hR.hs hf) h
theorem q_forget (hR : Rel s F G n m T B) (hf : Fr s s1) (h : Q (some (.inl (forgetF F v).1)) (doneS s1 G F n (forgetF F v))) : wpM L xs codT retT (f + 8) m_X10_forget [.inr (10, 0), .inl v] s1 Q := by
  rw [← hR.NK hf]
  exact r_forget hR.hw hR.hn (hR.hs hf) h
theorem q_server (hR : Rel s F G n m T B) (h : Q (some (.inl (serverA F v a))) s) : wpM L xs codT retT (f + 8) m_X10_server [.inr (10, 0), .inl v, .inl a] s Q := by
  rw [← hR.N] at h ⊢
  exact r_server hR.hw h
theorem q_site (hR : Rel s F G n m T B) (h : Q (some (.inl (siteA F v a))) s) : wpM L xs codT retT (f + 8) m_X10_site [.inr (10, 0), .inl v, .inl a] s Q := by
  rw [← hR.N] at h ⊢
  exact r_site hR.hw h
theorem q_slot (hR : Rel s F G n m T B) (h : Q (some (.inl (slotA F v x a))) s) : wpM L xs codT retT (f + 8) m_X10_slot [.inr (10, 0), .inl v, .inl x, .inl a] s Q := by
  rw [← hR.N] at h ⊢
  exact r_slot hR.hw h
theorem q_router (hR : Rel s F G n m T B) (h : Q (some (.inl (routA F v a))) s) : wpM L xs codT retT (f + 8) m_X10_router [.inr (10, 0), .inl v, .inl a] s Q := by
  rw [← hR.N] at h ⊢
  exact r_router hR.hw h
theorem q_map (hR : Rel s F G n m T B) (h : Q (some (.inl (mapA F v x a))) s) : wpM L xs codT retT (f + 8) m_X10_map [.inr (10, 0), .inl v, .inl x, .inl a] s Q := by
  rw [← hR.N] at h ⊢
  exact r_map hR.hw h
theorem q_answer (hR : Rel s F G n m T B) (h : Q (some (.inl (answF F name))) s) : wpM L xs codT retT (f + 8) m_X10_answer [.inr (10, 0), .inl name] s Q := by
  rw [← hR.N] at h ⊢
  exact r_answer hR.hw h
theorem q_way (hR : Rel s F G n m T B) (h : Q (some (.inl (wayA F name v))) s) : wpM L xs codT retT (f + 8) m_X10_way [.inr (10, 0), .inl name, .inl v] s Q := by
  rw [← hR.N] at h ⊢
  exact r_way hR.hw h
theorem q_endingNext (hR : Rel s F G n m T B) (h : Q (some (.inl (nextA F v))) s) : wpM L xs codT retT (f + 8) m_X10_endingNext [.inr (10, 0), .inl v] s Q := by
  rw [← hR.N] at h ⊢
  exact r_endingNext hR.hw h
theorem q_share (hR : Rel s F G n m T B) (h : Q (some (.inl (shareA F v x))) s) : wpM L xs codT retT (f + 8) m_X10_share [.inr (10, 0), .inl v, .inl x] s Q := by
  rw [← hR.N] at h ⊢
  exact r_share hR.hw h
set_option maxHeartbeats 4000000 in
set_option maxRecDepth 100000 in
theorem law_addServer (hX : walkL call L xs Q0 X) (hcall : callL call L xs f) (hR : Rel s F G n m T B) (hB1 : 1 ≤ B) (hB2 : B < 1000) (hi : i + 6 ≤ L) (hL : L ≤ 3072) (h : ∀ s' F' G' n' m' T', Rel s' F' G' n' m' T' (B + 1) → X 1058 (lsL i) [] s') : X 168 (lsL i) [] s := by
  refine hX 1000 168 _ _ _ ?_
  repeat' (first | (intro hc) | (refine And.intro ?_ ?_) | (exact absurd nI_0 ‹cmpF 0 (nI 0) 0›) | (exact absurd ‹cmpT 0 (nI 1) 0› nI1_ne) | (exact absurd nI_0 ‹cmpT 1 (nI 0) 0›) | (exact absurd ‹cmpF 1 (nI 1) 0› nI1_ne) | (show wp _ _ _ _ _ _ _ _ _ _ _ _; conv => whnf) | (simp (disch := omega) only [nI_add, nI_mul, setN_now, setN_put, nI_cl, Nat.add_zero]) | (refine hcall _ _ _ _ ?_; first | (refine x_addServer hR.1 hB1 (by omega) (fun s1 f1 c1 => ?_)) | (refine q_addServer hR (by assumption) ?_) | fail))
  all_goals first
    | exact h _ _ _ _ _ _ (Rel_rec (Oth_fr f1 hR.oth) c1)
    | (exfalso; exact (by assumption : cmpF 0 _ _) rfl)
    | (clear h hX hcall; simp (disch := omega) only [nI_toI, nI_cl, nI_add]; omega)
set_option maxHeartbeats 4000000 in
set_option maxRecDepth 100000 in
theorem law_addSite (hX : walkL call L xs Q0 X) (hcall : callL call L xs f) (hR : Rel s F G n m T B) (hB1 : 1 ≤ B) (hB2 : B < 1000) (hi : i + 6 ≤ L) (hL : L ≤ 3072) (h : ∀ s' F' G' n' m' T', Rel s' F' G' n' m' T' (B + 1) → X 1058 (lsL i) [] s') : X 211 (lsL i) [] s := by
  refine hX 1000 211 _ _ _ ?_
  repeat' (first | (intro hc) | (refine And.intro ?_ ?_) | (exact absurd nI_0 ‹cmpF 0 (nI 0) 0›) | (exact absurd ‹cmpT 0 (nI 1) 0› nI1_ne) | (exact absurd nI_0 ‹cmpT 1 (nI 0) 0›) | (exact absurd ‹cmpF 1 (nI 1) 0› nI1_ne) | (show wp _ _ _ _ _ _ _ _ _ _ _ _; conv => whnf) | (simp (disch := omega) only [nI_add, nI_mul, setN_now, setN_put, nI_cl, Nat.add_zero]) | (refine hcall _ _ _ _ ?_; first | (refine x_addSite hR.1 hB1 (by omega) (fun s1 f1 c1 => ?_)) | (refine q_addSite hR (by assumption) ?_) | fail))
  all_goals first
    | exact h _ _ _ _ _ _ (Rel_rec (Oth_fr f1 hR.oth) c1)
    | (exfalso; exact (by assumption : cmpF 0 _ _) rfl)
    | (clear h hX hcall; simp (disch := omega) only [nI_toI, nI_cl, nI_add]; omega)
set_option maxHeartbeats 4000000 in
set_option maxRecDepth 100000 in
theorem law_addRouter (hX : walkL call L xs Q0 X) (hcall : callL call L xs f) (hR : Rel s F G n m T B) (hB1 : 1 ≤ B) (hB2 : B < 1000) (hi : i + 6 ≤ L) (hL : L ≤ 3072) (h : ∀ s' F' G' n' m' T', Rel s' F' G' n' m' T' (B + 1) → X 1058 (lsL i) [] s') : X 254 (lsL i) [] s := by
  refine hX 1000 254 _ _ _ ?_
  repeat' (first | (intro hc) | (refine And.intro ?_ ?_) | (exact absurd nI_0 ‹cmpF 0 (nI 0) 0›) | (exact absurd ‹cmpT 0 (nI 1) 0› nI1_ne) | (exact absurd nI_0 ‹cmpT 1 (nI 0) 0›) | (exact absurd ‹cmpF 1 (nI 1) 0› nI1_ne) | (show wp _ _ _ _ _ _ _ _ _ _ _ _; conv => whnf) | (simp (disch := omega) only [nI_add, nI_mul, setN_now, setN_put, nI_cl, Nat.add_zero]) | (refine hcall _ _ _ _ ?_; first | (refine x_addRouter hR.1 hB1 (by omega) (fun s1 f1 c1 => ?_)) | (refine q_addRouter hR (by assumption) ?_) | fail))
  all_goals first
    | exact h _ _ _ _ _ _ (Rel_rec (Oth_fr f1 hR.oth) c1)
    | (exfalso; exact (by assumption : cmpF 0 _ _) rfl)
    | (clear h hX hcall; simp (disch := omega) only [nI_toI, nI_cl, nI_add]; omega)
set_option maxHeartbeats 4000000 in
set_option maxRecDepth 100000 in
theorem law_setSlot (hX : walkL call L xs Q0 X) (hcall : callL call L xs f) (hR : Rel s F G n m T B) (hB1 : 1 ≤ B) (hB2 : B < 1000) (hi : i + 6 ≤ L) (hL : L ≤ 3072) (h : ∀ s' F' G' n' m' T', Rel s' F' G' n' m' T' (B + 1) → X 1058 (lsL i) [] s') : X 267 (lsL i) [] s := by
  refine hX 1000 267 _ _ _ ?_
  repeat' (first | (intro hc) | (refine And.intro ?_ ?_) | (exact absurd nI_0 ‹cmpF 0 (nI 0) 0›) | (exact absurd ‹cmpT 0 (nI 1) 0› nI1_ne) | (exact absurd nI_0 ‹cmpT 1 (nI 0) 0›) | (exact absurd ‹cmpF 1 (nI 1) 0› nI1_ne) | (show wp _ _ _ _ _ _ _ _ _ _ _ _; conv => whnf) | (simp (disch := omega) only [nI_add, nI_mul, setN_now, setN_put, nI_cl, Nat.add_zero]) | (refine hcall _ _ _ _ ?_; first | (refine x_setSlot hR.1 hB1 (by omega) (fun s1 f1 c1 => ?_)) | (refine q_setSlot hR (by omega) (by assumption) ?_) | fail))
  all_goals first
    | exact h _ _ _ _ _ _ (Rel_rec (Oth_fr f1 hR.oth) c1)
    | (exfalso; exact (by assumption : cmpF 0 _ _) rfl)
    | (clear h hX hcall; simp (disch := omega) only [nI_toI, nI_cl, nI_add]; omega)
set_option maxHeartbeats 4000000 in
set_option maxRecDepth 100000 in
theorem law_emptySlot (hX : walkL call L xs Q0 X) (hcall : callL call L xs f) (hR : Rel s F G n m T B) (hB1 : 1 ≤ B) (hB2 : B < 1000) (hi : i + 6 ≤ L) (hL : L ≤ 3072) (h : ∀ s' F' G' n' m' T', Rel s' F' G' n' m' T' (B + 1) → X 1058 (lsL i) [] s') : X 330 (lsL i) [] s := by
  refine hX 1000 330 _ _ _ ?_
  repeat' (first | (intro hc) | (refine And.intro ?_ ?_) | (exact absurd nI_0 ‹cmpF 0 (nI 0) 0›) | (exact absurd ‹cmpT 0 (nI 1) 0› nI1_ne) | (exact absurd nI_0 ‹cmpT 1 (nI 0) 0›) | (exact absurd ‹cmpF 1 (nI 1) 0› nI1_ne) | (show wp _ _ _ _ _ _ _ _ _ _ _ _; conv => whnf) | (simp (disch := omega) only [nI_add, nI_mul, setN_now, setN_put, nI_cl, Nat.add_zero]) | (refine hcall _ _ _ _ ?_; first | (refine x_emptySlot hR.1 hB1 (by omega) (fun s1 f1 c1 => ?_)) | (refine q_emptySlot hR (by omega) (by assumption) ?_) | fail))
  all_goals first
    | exact h _ _ _ _ _ _ (Rel_rec (Oth_fr f1 hR.oth) c1)
    | (exfalso; exact (by assumption : cmpF 0 _ _) rfl)
    | (clear h hX hcall; simp (disch := omega) only [nI_toI, nI_cl, nI_add]; omega)
set_option maxHeartbeats 4000000 in
set_option maxRecDepth 100000 in
theorem law_register (hX : walkL call L xs Q0 X) (hcall : callL call L xs f) (hR : Rel s F G n m T B) (hB1 : 1 ≤ B) (hB2 : B < 1000) (hi : i + 6 ≤ L) (hL : L ≤ 3072) (h : ∀ s' F' G' n' m' T', Rel s' F' G' n' m' T' (B + 1) → X 1058 (lsL i) [] s') : X 363 (lsL i) [] s := by
  refine hX 1000 363 _ _ _ ?_
  repeat' (first | (intro hc) | (refine And.intro ?_ ?_) | (exact absurd nI_0 ‹cmpF 0 (nI 0) 0›) | (exact absurd ‹cmpT 0 (nI 1) 0› nI1_ne) | (exact absurd nI_0 ‹cmpT 1 (nI 0) 0›) | (exact absurd ‹cmpF 1 (nI 1) 0› nI1_ne) | (show wp _ _ _ _ _ _ _ _ _ _ _ _; conv => whnf) | (simp (disch := omega) only [nI_add, nI_mul, setN_now, setN_put, nI_cl, Nat.add_zero]) | (refine hcall _ _ _ _ ?_; first | (refine x_register hR.1 hB1 (by omega) (fun s1 f1 c1 => ?_)) | (refine q_register hR (by assumption) ?_) | fail))
  all_goals first
    | exact h _ _ _ _ _ _ (Rel_rec (Oth_fr f1 hR.oth) c1)
    | (exfalso; exact (by assumption : cmpF 0 _ _) rfl)
    | (clear h hX hcall; simp (disch := omega) only [nI_toI, nI_cl, nI_add]; omega)
set_option maxHeartbeats 4000000 in
set_option maxRecDepth 100000 in
theorem law_unregister (hX : walkL call L xs Q0 X) (hcall : callL call L xs f) (hR : Rel s F G n m T B) (hB1 : 1 ≤ B) (hB2 : B < 1000) (hi : i + 6 ≤ L) (hL : L ≤ 3072) (h : ∀ s' F' G' n' m' T', Rel s' F' G' n' m' T' (B + 1) → X 1058 (lsL i) [] s') : X 386 (lsL i) [] s := by
  refine hX 1000 386 _ _ _ ?_
  repeat' (first | (intro hc) | (refine And.intro ?_ ?_) | (exact absurd nI_0 ‹cmpF 0 (nI 0) 0›) | (exact absurd ‹cmpT 0 (nI 1) 0› nI1_ne) | (exact absurd nI_0 ‹cmpT 1 (nI 0) 0›) | (exact absurd ‹cmpF 1 (nI 1) 0› nI1_ne) | (show wp _ _ _ _ _ _ _ _ _ _ _ _; conv => whnf) | (simp (disch := omega) only [nI_add, nI_mul, setN_now, setN_put, nI_cl, Nat.add_zero]) | (refine hcall _ _ _ _ ?_; first | (refine x_unregister hR.1 hB1 (by omega) (fun s1 f1 c1 => ?_)) | (refine q_unregister hR (by assumption) ?_) | fail))
  all_goals first
    | exact h _ _ _ _ _ _ (Rel_rec (Oth_fr f1 hR.oth) c1)
    | (exfalso; exact (by assumption : cmpF 0 _ _) rfl)
    | (clear h hX hcall; simp (disch := omega) only [nI_toI, nI_cl, nI_add]; omega)
set_option maxHeartbeats 4000000 in
set_option maxRecDepth 100000 in
theorem law_setMapLife (hX : walkL call L xs Q0 X) (hcall : callL call L xs f) (hR : Rel s F G n m T B) (hB1 : 1 ≤ B) (hB2 : B < 1000) (hi : i + 6 ≤ L) (hL : L ≤ 3072) (h : ∀ s' F' G' n' m' T', Rel s' F' G' n' m' T' (B + 1) → X 1058 (lsL i) [] s') : X 409 (lsL i) [] s := by
  refine hX 1000 409 _ _ _ ?_
  repeat' (first | (intro hc) | (refine And.intro ?_ ?_) | (exact absurd nI_0 ‹cmpF 0 (nI 0) 0›) | (exact absurd ‹cmpT 0 (nI 1) 0› nI1_ne) | (exact absurd nI_0 ‹cmpT 1 (nI 0) 0›) | (exact absurd ‹cmpF 1 (nI 1) 0› nI1_ne) | (show wp _ _ _ _ _ _ _ _ _ _ _ _; conv => whnf) | (simp (disch := omega) only [nI_add, nI_mul, setN_now, setN_put, nI_cl, Nat.add_zero]) | (refine hcall _ _ _ _ ?_; first | (refine x_setMapLife hR.1 hB1 (by omega) (fun s1 f1 c1 => ?_)) | (refine q_setMapLife hR (by assumption) ?_) | fail))
  all_goals first
    | exact h _ _ _ _ _ _ (Rel_rec (Oth_fr f1 hR.oth) c1)
    | (exfalso; exact (by assumption : cmpF 0 _ _) rfl)
    | (clear h hX hcall; simp (disch := omega) only [nI_toI, nI_cl, nI_add]; omega)
set_option maxHeartbeats 4000000 in
set_option maxRecDepth 100000 in
theorem law_send (hX : walkL call L xs Q0 X) (hcall : callL call L xs f) (hR : Rel s F G n m T B) (hB1 : 1 ≤ B) (hB2 : B < 1000) (hi : i + 6 ≤ L) (hL : L ≤ 3072) (h : ∀ s' F' G' n' m' T', Rel s' F' G' n' m' T' (B + 1) → X 1058 (lsL i) [] s') : X 432 (lsL i) [] s := by
  refine hX 1000 432 _ _ _ ?_
  repeat' (first | (intro hc) | (refine And.intro ?_ ?_) | (exact absurd nI_0 ‹cmpF 0 (nI 0) 0›) | (exact absurd ‹cmpT 0 (nI 1) 0› nI1_ne) | (exact absurd nI_0 ‹cmpT 1 (nI 0) 0›) | (exact absurd ‹cmpF 1 (nI 1) 0› nI1_ne) | (show wp _ _ _ _ _ _ _ _ _ _ _ _; conv => whnf) | (simp (disch := omega) only [nI_add, nI_mul, setN_now, setN_put, nI_cl, Nat.add_zero]) | (refine hcall _ _ _ _ ?_; first | (refine x_send hR.1 hB1 (by omega) (fun s1 f1 c1 => ?_)) | (refine q_send hR (by assumption) ?_) | fail))
  all_goals first
    | exact h _ _ _ _ _ _ (Rel_rec (Oth_fr f1 hR.oth) c1)
    | (exfalso; exact (by assumption : cmpF 0 _ _) rfl)
    | (clear h hX hcall; simp (disch := omega) only [nI_toI, nI_cl, nI_add]; omega)
set_option maxHeartbeats 4000000 in
set_option maxRecDepth 100000 in
theorem law_pass (hX : walkL call L xs Q0 X) (hcall : callL call L xs f) (hR : Rel s F G n m T B) (hB1 : 1 ≤ B) (hB2 : B < 1000) (hi : i + 6 ≤ L) (hL : L ≤ 3072) (h : ∀ s' F' G' n' m' T', Rel s' F' G' n' m' T' (B + 1) → X 1058 (lsL i) [] s') : X 475 (lsL i) [] s := by
  refine hX 1000 475 _ _ _ ?_
  repeat' (first | (intro hc) | (refine And.intro ?_ ?_) | (exact absurd nI_0 ‹cmpF 0 (nI 0) 0›) | (exact absurd ‹cmpT 0 (nI 1) 0› nI1_ne) | (exact absurd nI_0 ‹cmpT 1 (nI 0) 0›) | (exact absurd ‹cmpF 1 (nI 1) 0› nI1_ne) | (show wp _ _ _ _ _ _ _ _ _ _ _ _; conv => whnf) | (simp (disch := omega) only [nI_add, nI_mul, setN_now, setN_put, nI_cl, Nat.add_zero]) | (refine hcall _ _ _ _ ?_; first | (refine x_pass hR.1 hB1 (by omega) (fun s1 f1 c1 => ?_)) | (refine q_pass hR (by assumption) ?_) | fail))
  all_goals first
    | exact h _ _ _ _ _ _ (Rel_rec (Oth_fr f1 hR.oth) c1)
    | (exfalso; exact (by assumption : cmpF 0 _ _) rfl)
    | (clear h hX hcall; simp (disch := omega) only [nI_toI, nI_cl, nI_add]; omega)
set_option maxHeartbeats 4000000 in
set_option maxRecDepth 100000 in
theorem law_forget (hX : walkL call L xs Q0 X) (hcall : callL call L xs f) (hR : Rel s F G n m T B) (hB1 : 1 ≤ B) (hB2 : B < 1000) (hi : i + 6 ≤ L) (hL : L ≤ 3072) (h : ∀ s' F' G' n' m' T', Rel s' F' G' n' m' T' (B + 1) → X 1058 (lsL i) [] s') : X 498 (lsL i) [] s := by
  refine hX 1000 498 _ _ _ ?_
  repeat' (first | (intro hc) | (refine And.intro ?_ ?_) | (exact absurd nI_0 ‹cmpF 0 (nI 0) 0›) | (exact absurd ‹cmpT 0 (nI 1) 0› nI1_ne) | (exact absurd nI_0 ‹cmpT 1 (nI 0) 0›) | (exact absurd ‹cmpF 1 (nI 1) 0› nI1_ne) | (show wp _ _ _ _ _ _ _ _ _ _ _ _; conv => whnf) | (simp (disch := omega) only [nI_add, nI_mul, setN_now, setN_put, nI_cl, Nat.add_zero]) | (refine hcall _ _ _ _ ?_; first | (refine x_forget hR.1 hB1 (by omega) (fun s1 f1 c1 => ?_)) | (refine q_forget hR (by assumption) ?_) | fail))
  all_goals first
    | exact h _ _ _ _ _ _ (Rel_rec (Oth_fr f1 hR.oth) c1)
    | (exfalso; exact (by assumption : cmpF 0 _ _) rfl)
    | (clear h hX hcall; simp (disch := omega) only [nI_toI, nI_cl, nI_add]; omega)
set_option maxHeartbeats 4000000 in
set_option maxRecDepth 100000 in
theorem law_server (hX : walkL call L xs Q0 X) (hcall : callL call L xs f) (hR : Rel s F G n m T B) (hi : i + 6 ≤ L) (hL : L ≤ 3072) (h : ∀ s' F' G' n' m' T', Rel s' F' G' n' m' T' (B + 1) → X 1058 (lsL i) [] s') : X 642 (lsL i) [] s := by
  refine hX 1000 642 _ _ _ ?_
  repeat' (first | (intro hc) | (refine And.intro ?_ ?_) | (exact absurd nI_0 ‹cmpF 0 (nI 0) 0›) | (exact absurd ‹cmpT 0 (nI 1) 0› nI1_ne) | (exact absurd nI_0 ‹cmpT 1 (nI 0) 0›) | (exact absurd ‹cmpF 1 (nI 1) 0› nI1_ne) | (show wp _ _ _ _ _ _ _ _ _ _ _ _; conv => whnf) | (simp (disch := omega) only [nI_add, nI_mul, setN_now, setN_put, nI_cl, Nat.add_zero]) | (refine hcall _ _ _ _ ?_; first | (refine c_server hR.hw hR.1.2.1.1 ?_) | (refine q_server hR ?_) | fail))
  all_goals first
    | exact h _ _ _ _ _ _ (Rel_B hR (by omega))
    | (exfalso; exact (by assumption : cmpF 0 _ _) rfl)
    | (clear h hX hcall; simp (disch := omega) only [nI_toI, nI_cl, nI_add]; omega)
set_option maxHeartbeats 4000000 in
set_option maxRecDepth 100000 in
theorem law_site (hX : walkL call L xs Q0 X) (hcall : callL call L xs f) (hR : Rel s F G n m T B) (hi : i + 6 ≤ L) (hL : L ≤ 3072) (h : ∀ s' F' G' n' m' T', Rel s' F' G' n' m' T' (B + 1) → X 1058 (lsL i) [] s') : X 675 (lsL i) [] s := by
  refine hX 1000 675 _ _ _ ?_
  repeat' (first | (intro hc) | (refine And.intro ?_ ?_) | (exact absurd nI_0 ‹cmpF 0 (nI 0) 0›) | (exact absurd ‹cmpT 0 (nI 1) 0› nI1_ne) | (exact absurd nI_0 ‹cmpT 1 (nI 0) 0›) | (exact absurd ‹cmpF 1 (nI 1) 0› nI1_ne) | (show wp _ _ _ _ _ _ _ _ _ _ _ _; conv => whnf) | (simp (disch := omega) only [nI_add, nI_mul, setN_now, setN_put, nI_cl, Nat.add_zero]) | (refine hcall _ _ _ _ ?_; first | (refine c_site hR.hw hR.1.2.1.1 ?_) | (refine q_site hR ?_) | fail))
  all_goals first
    | exact h _ _ _ _ _ _ (Rel_B hR (by omega))
    | (exfalso; exact (by assumption : cmpF 0 _ _) rfl)
    | (clear h hX hcall; simp (disch := omega) only [nI_toI, nI_cl, nI_add]; omega)
set_option maxHeartbeats 4000000 in
set_option maxRecDepth 100000 in
theorem law_slot (hX : walkL call L xs Q0 X) (hcall : callL call L xs f) (hR : Rel s F G n m T B) (hi : i + 6 ≤ L) (hL : L ≤ 3072) (h : ∀ s' F' G' n' m' T', Rel s' F' G' n' m' T' (B + 1) → X 1058 (lsL i) [] s') : X 708 (lsL i) [] s := by
  refine hX 1000 708 _ _ _ ?_
  repeat' (first | (intro hc) | (refine And.intro ?_ ?_) | (exact absurd nI_0 ‹cmpF 0 (nI 0) 0›) | (exact absurd ‹cmpT 0 (nI 1) 0› nI1_ne) | (exact absurd nI_0 ‹cmpT 1 (nI 0) 0›) | (exact absurd ‹cmpF 1 (nI 1) 0› nI1_ne) | (show wp _ _ _ _ _ _ _ _ _ _ _ _; conv => whnf) | (simp (disch := omega) only [nI_add, nI_mul, setN_now, setN_put, nI_cl, Nat.add_zero]) | (refine hcall _ _ _ _ ?_; first | (refine c_slot hR.hw hR.1.2.1.1 ?_) | (refine q_slot hR ?_) | fail))
  all_goals first
    | exact h _ _ _ _ _ _ (Rel_B hR (by omega))
    | (exfalso; exact (by assumption : cmpF 0 _ _) rfl)
    | (clear h hX hcall; simp (disch := omega) only [nI_toI, nI_cl, nI_add]; omega)
set_option maxHeartbeats 4000000 in
set_option maxRecDepth 100000 in
theorem law_router (hX : walkL call L xs Q0 X) (hcall : callL call L xs f) (hR : Rel s F G n m T B) (hi : i + 6 ≤ L) (hL : L ≤ 3072) (h : ∀ s' F' G' n' m' T', Rel s' F' G' n' m' T' (B + 1) → X 1058 (lsL i) [] s') : X 751 (lsL i) [] s := by
  refine hX 1000 751 _ _ _ ?_
  repeat' (first | (intro hc) | (refine And.intro ?_ ?_) | (exact absurd nI_0 ‹cmpF 0 (nI 0) 0›) | (exact absurd ‹cmpT 0 (nI 1) 0› nI1_ne) | (exact absurd nI_0 ‹cmpT 1 (nI 0) 0›) | (exact absurd ‹cmpF 1 (nI 1) 0› nI1_ne) | (show wp _ _ _ _ _ _ _ _ _ _ _ _; conv => whnf) | (simp (disch := omega) only [nI_add, nI_mul, setN_now, setN_put, nI_cl, Nat.add_zero]) | (refine hcall _ _ _ _ ?_; first | (refine c_router hR.hw hR.1.2.1.1 ?_) | (refine q_router hR ?_) | fail))
  all_goals first
    | exact h _ _ _ _ _ _ (Rel_B hR (by omega))
    | (exfalso; exact (by assumption : cmpF 0 _ _) rfl)
    | (clear h hX hcall; simp (disch := omega) only [nI_toI, nI_cl, nI_add]; omega)
set_option maxHeartbeats 4000000 in
set_option maxRecDepth 100000 in
theorem law_map (hX : walkL call L xs Q0 X) (hcall : callL call L xs f) (hR : Rel s F G n m T B) (hi : i + 6 ≤ L) (hL : L ≤ 3072) (h : ∀ s' F' G' n' m' T', Rel s' F' G' n' m' T' (B + 1) → X 1058 (lsL i) [] s') : X 784 (lsL i) [] s := by
  refine hX 1000 784 _ _ _ ?_
  repeat' (first | (intro hc) | (refine And.intro ?_ ?_) | (exact absurd nI_0 ‹cmpF 0 (nI 0) 0›) | (exact absurd ‹cmpT 0 (nI 1) 0› nI1_ne) | (exact absurd nI_0 ‹cmpT 1 (nI 0) 0›) | (exact absurd ‹cmpF 1 (nI 1) 0› nI1_ne) | (show wp _ _ _ _ _ _ _ _ _ _ _ _; conv => whnf) | (simp (disch := omega) only [nI_add, nI_mul, setN_now, setN_put, nI_cl, Nat.add_zero]) | (refine hcall _ _ _ _ ?_; first | (refine c_map hR.hw hR.1.2.1.1 ?_) | (refine q_map hR ?_) | fail))
  all_goals first
    | exact h _ _ _ _ _ _ (Rel_B hR (by omega))
    | (exfalso; exact (by assumption : cmpF 0 _ _) rfl)
    | (clear h hX hcall; simp (disch := omega) only [nI_toI, nI_cl, nI_add]; omega)
set_option maxHeartbeats 4000000 in
set_option maxRecDepth 100000 in
theorem law_answer (hX : walkL call L xs Q0 X) (hcall : callL call L xs f) (hR : Rel s F G n m T B) (hi : i + 6 ≤ L) (hL : L ≤ 3072) (h : ∀ s' F' G' n' m' T', Rel s' F' G' n' m' T' (B + 1) → X 1058 (lsL i) [] s') : X 827 (lsL i) [] s := by
  refine hX 1000 827 _ _ _ ?_
  repeat' (first | (intro hc) | (refine And.intro ?_ ?_) | (exact absurd nI_0 ‹cmpF 0 (nI 0) 0›) | (exact absurd ‹cmpT 0 (nI 1) 0› nI1_ne) | (exact absurd nI_0 ‹cmpT 1 (nI 0) 0›) | (exact absurd ‹cmpF 1 (nI 1) 0› nI1_ne) | (show wp _ _ _ _ _ _ _ _ _ _ _ _; conv => whnf) | (simp (disch := omega) only [nI_add, nI_mul, setN_now, setN_put, nI_cl, Nat.add_zero]) | (refine hcall _ _ _ _ ?_; first | (refine c_answer hR.hw hR.1.2.1.1 ?_) | (refine q_answer hR ?_) | fail))
  all_goals first
    | exact h _ _ _ _ _ _ (Rel_B hR (by omega))
    | (exfalso; exact (by assumption : cmpF 0 _ _) rfl)
    | (clear h hX hcall; simp (disch := omega) only [nI_toI, nI_cl, nI_add]; omega)
set_option maxHeartbeats 4000000 in
set_option maxRecDepth 100000 in
theorem law_way (hX : walkL call L xs Q0 X) (hcall : callL call L xs f) (hR : Rel s F G n m T B) (hi : i + 6 ≤ L) (hL : L ≤ 3072) (h : ∀ s' F' G' n' m' T', Rel s' F' G' n' m' T' (B + 1) → X 1058 (lsL i) [] s') : X 850 (lsL i) [] s := by
  refine hX 1000 850 _ _ _ ?_
  repeat' (first | (intro hc) | (refine And.intro ?_ ?_) | (exact absurd nI_0 ‹cmpF 0 (nI 0) 0›) | (exact absurd ‹cmpT 0 (nI 1) 0› nI1_ne) | (exact absurd nI_0 ‹cmpT 1 (nI 0) 0›) | (exact absurd ‹cmpF 1 (nI 1) 0› nI1_ne) | (show wp _ _ _ _ _ _ _ _ _ _ _ _; conv => whnf) | (simp (disch := omega) only [nI_add, nI_mul, setN_now, setN_put, nI_cl, Nat.add_zero]) | (refine hcall _ _ _ _ ?_; first | (refine c_way hR.hw hR.1.2.1.1 ?_) | (refine q_way hR ?_) | fail))
  all_goals first
    | exact h _ _ _ _ _ _ (Rel_B hR (by omega))
    | (exfalso; exact (by assumption : cmpF 0 _ _) rfl)
    | (clear h hX hcall; simp (disch := omega) only [nI_toI, nI_cl, nI_add]; omega)
set_option maxHeartbeats 4000000 in
set_option maxRecDepth 100000 in
theorem law_endingNext (hX : walkL call L xs Q0 X) (hcall : callL call L xs f) (hR : Rel s F G n m T B) (hi : i + 6 ≤ L) (hL : L ≤ 3072) (h : ∀ s' F' G' n' m' T', Rel s' F' G' n' m' T' (B + 1) → X 1058 (lsL i) [] s') : X 883 (lsL i) [] s := by
  refine hX 1000 883 _ _ _ ?_
  repeat' (first | (intro hc) | (refine And.intro ?_ ?_) | (exact absurd nI_0 ‹cmpF 0 (nI 0) 0›) | (exact absurd ‹cmpT 0 (nI 1) 0› nI1_ne) | (exact absurd nI_0 ‹cmpT 1 (nI 0) 0›) | (exact absurd ‹cmpF 1 (nI 1) 0› nI1_ne) | (show wp _ _ _ _ _ _ _ _ _ _ _ _; conv => whnf) | (simp (disch := omega) only [nI_add, nI_mul, setN_now, setN_put, nI_cl, Nat.add_zero]) | (refine hcall _ _ _ _ ?_; first | (refine c_endingNext hR.hw hR.1.2.1.1 ?_) | (refine q_endingNext hR ?_) | fail))
  all_goals first
    | exact h _ _ _ _ _ _ (Rel_B hR (by omega))
    | (exfalso; exact (by assumption : cmpF 0 _ _) rfl)
    | (clear h hX hcall; simp (disch := omega) only [nI_toI, nI_cl, nI_add]; omega)
set_option maxHeartbeats 4000000 in
set_option maxRecDepth 100000 in
theorem law_share (hX : walkL call L xs Q0 X) (hcall : callL call L xs f) (hR : Rel s F G n m T B) (hi : i + 6 ≤ L) (hL : L ≤ 3072) (h : ∀ s' F' G' n' m' T', Rel s' F' G' n' m' T' (B + 1) → X 1058 (lsL i) [] s') : X 1025 (lsL i) [] s := by
  refine hX 1000 1025 _ _ _ ?_
  repeat' (first | (intro hc) | (refine And.intro ?_ ?_) | (exact absurd nI_0 ‹cmpF 0 (nI 0) 0›) | (exact absurd ‹cmpT 0 (nI 1) 0› nI1_ne) | (exact absurd nI_0 ‹cmpT 1 (nI 0) 0›) | (exact absurd ‹cmpF 1 (nI 1) 0› nI1_ne) | (show wp _ _ _ _ _ _ _ _ _ _ _ _; conv => whnf) | (simp (disch := omega) only [nI_add, nI_mul, setN_now, setN_put, nI_cl, Nat.add_zero]) | (refine hcall _ _ _ _ ?_; first | (refine c_share hR.hw hR.1.2.1.1 ?_) | (refine q_share hR ?_) | fail))
  all_goals first
    | exact h _ _ _ _ _ _ (Rel_B hR (by omega))
    | (exfalso; exact (by assumption : cmpF 0 _ _) rfl)
    | (clear h hX hcall; simp (disch := omega) only [nI_toI, nI_cl, nI_add]; omega)
end LAW1
