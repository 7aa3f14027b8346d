/-! THE CLASS: rehearsals -/
section CLS26
variable {L : Nat} {xs : Nat → Int32} {f i i2 k r p q c j n B B' b w w' w2 m sd : Nat} {x y v z a l lo v0 v1 name flow place which : Int32} {s s' s2 s3 t : St} {F F0 F1 G C F' U u : Fm} {Q : Option MV → St → Prop} {P : Nat → Nat} {o : Int32 × Fm}
set_option maxHeartbeats 4000000 in
set_option maxRecDepth 100000 in
theorem x_wouldReach (hC : CL s F G n B) (h : ∀ s', Fr s s' → CL s' F G n B → Q (some (.inl (reachA F v name flow x))) s') : wpM L xs codT retT (f + 6) m_X9_wouldReach [.inr (9, 0), .inl v, .inl name, .inl flow, .inl x] s Q := by
  have hC' := hC
  obtain ⟨hp, ⟨hR, hW⟩, -⟩ := hC'
  have hh := hW.1.h
  have h9 := hW.2
  have r2 := hW.1.r2
  have e3 : s.1 8 0 5 = nI (cR F) := hR.r1.trans hW.1.r1
  by_cases hv : iN v (cR F)
  · by_cases hx : iN x 100
    · have ea := add_hour (a := F 0) (x := x) (by omega) (by omega)
      have hw2 : WF (putF F 0 (F 0 + x)) B := WF_hour hW.1 (by omega)
      have er : reachA F v name flow x = (letterF (putF F 0 (F 0 + x)) v name flow).1 := by
        have eR : cR (putF F 0 (F 0 + x)) = cR F := by unfold cR; rw [putF_ne _ _ (by omega)]
        have q1 : reachA F v name flow x = if ¬ ((iN name 256 ∧ iN flow 100) ∧ iN x 100) then -2 else (sendF (putF F 0 (F 0 + x)) (nn v) name flow).1 := by unfold reachA; rw [if_neg (fun q => q hv)]
        have q2 : letterF (putF F 0 (F 0 + x)) v name flow = if ¬ (iN name 256 ∧ iN flow 100) then (-2, putF F 0 (F 0 + x)) else sendF (putF F 0 (F 0 + x)) (nn v) name flow := by unfold letterF; rw [eR, if_neg (fun q => q hv)]
        rw [q1, q2]
        by_cases hb : iN name 256 ∧ iN flow 100
        · rw [if_neg (fun q => q ⟨hb, hx⟩), if_neg (fun q => q hb)]
        · rw [if_pos (fun q => hb q.1), if_pos hb]
      rw [er] at h
      have fin : ∀ s1, Upd s s1 1 → RepW s1 1 F → ∀ s2, Upd (putV s1 8 1 6 (F 0 + x)) s2 1 → Q (some (.inl (letterF (putF F 0 (F 0 + x)) v name flow).1)) s2 := fun s1 u1 R1 s2 u2 => h s2 (((u1.put rfl).trans u2).fr (by omega)) (CL_upd hC ((u1.put rfl).trans u2))
      clear h er
      intro call hcall X hX; refine hX 1000 0 _ _ _ ?_
      repeat' (first | (intro hc) | (refine And.intro ?_ ?_) | (exact absurd nI_0 ‹cmpF 0 (nI 0) 0›) | (exact absurd ‹cmpT 0 (nI 1) 0› nI1_ne) | (exact absurd nI_0 ‹cmpT 1 (nI 0) 0›) | (exact absurd ‹cmpF 1 (nI 1) 0› nI1_ne) | (show wp _ _ _ _ _ _ _ _ _ _ _ _; conv => whnf) | (rw [R1.h1]) | (simp (disch := omega) only [nI_add, nI_mul, setN_now, setN_put, nI_cl, Nat.add_zero]) | (refine hcall _ _ _ _ ?_; first | (refine c_isRouter e3 r2 ?_) | (refine c_worldCopy hW.1 hp (w := 1) (w2 := 0) (by omega) (by omega) (by omega) hR (fun s1 u1 R1 => ?_)) | (refine c_sendLetter hw2 (w := 1) (by omega) (permOk_put (u1.2.2 hp)) (hour_ok hW.1 (u1.2.2 hp) (by omega) R1) (fun s2 u2 R2 => ?_)) | fail))
      all_goals first
        | exact fin _ u1 R1 _ u2
        | (exfalso; exact bF hv (by assumption))
        | (exfalso; clear fin hv hC hR hW; (try clear hX hcall); (try clear h); (try simp (disch := omega) only [cmpT, cmpF, bI_eq0, bI_ne0, Classical.not_not, nI_toI, nI_cl, nI_inj, nI_add, nI_mul, nI_subI, takeL, setL, Int32.toInt_zero, Nat.add_zero, Nat.zero_mul, Nat.zero_add, alen11, alen12, alen13, alen14, alen15, alen16, alen17, alen18, alen19] at *); omega)
    · have e : reachA F v name flow x = -2 := by unfold reachA; rw [if_neg (fun q => q hv), if_pos (fun q => hx q.2)]
      rw [e] at h
      have h := h s Fr.refl hC
      intro call hcall X hX; refine hX 1000 0 _ _ _ ?_
      repeat' (first | (intro hc) | (refine And.intro ?_ ?_) | (exact absurd nI_0 ‹cmpF 0 (nI 0) 0›) | (exact absurd ‹cmpT 0 (nI 1) 0› nI1_ne) | (exact absurd nI_0 ‹cmpT 1 (nI 0) 0›) | (exact absurd ‹cmpF 1 (nI 1) 0› nI1_ne) | (show wp _ _ _ _ _ _ _ _ _ _ _ _; conv => whnf) | (simp (disch := omega) only [nI_add, nI_mul, setN_now, setN_put, nI_cl, Nat.add_zero]) | (refine hcall _ _ _ _ ?_; first | (refine c_isRouter e3 r2 ?_) | fail))
      all_goals first
        | exact h
        | (exfalso; exact bF hv (by assumption))
        | (exfalso; clear h hv hC hR hW; (try clear hX hcall); (try clear h); (try simp (disch := omega) only [cmpT, cmpF, bI_eq0, bI_ne0, Classical.not_not, nI_toI, nI_cl, nI_inj, nI_add, nI_mul, nI_subI, takeL, setL, Int32.toInt_zero, Nat.add_zero, Nat.zero_mul, Nat.zero_add, alen11, alen12, alen13, alen14, alen15, alen16, alen17, alen18, alen19] at *); omega)
  · have e : reachA F v name flow x = -1 := by unfold reachA; rw [if_pos hv]
    rw [e] at h
    have h := h s Fr.refl hC
    intro call hcall X hX; refine hX 1000 0 _ _ _ ?_
    repeat' (first | (intro hc) | (refine And.intro ?_ ?_) | (exact absurd nI_0 ‹cmpF 0 (nI 0) 0›) | (exact absurd ‹cmpT 0 (nI 1) 0› nI1_ne) | (exact absurd nI_0 ‹cmpT 1 (nI 0) 0›) | (exact absurd ‹cmpF 1 (nI 1) 0› nI1_ne) | (show wp _ _ _ _ _ _ _ _ _ _ _ _; conv => whnf) | (simp (disch := omega) only [nI_add, nI_mul, setN_now, setN_put, nI_cl, Nat.add_zero]) | (refine hcall _ _ _ _ ?_; first | (refine c_isRouter e3 r2 ?_) | fail))
    all_goals first
      | exact h
      | (exfalso; exact bT hv (by assumption))
set_option maxHeartbeats 4000000 in
set_option maxRecDepth 100000 in
theorem x_wouldAsk (hC : CL s F G n B) (h : ∀ s', Fr s s' → CL s' F G n B → Q (some (.inl (askA F v name flow))) s') : wpM L xs codT retT (f + 6) m_X9_wouldAsk [.inr (9, 0), .inl v, .inl name, .inl flow] s Q := by
  have hC' := hC
  obtain ⟨hp, ⟨hR, hW⟩, -⟩ := hC'
  have r2 := hW.1.r2
  have e3 : s.1 8 0 5 = nI (cR F) := hR.r1.trans hW.1.r1
  by_cases hv : iN v (cR F)
  · obtain ⟨r, rfl, hr⟩ := iN_nn hv (by omega)
    have en : nn (nI r) = r := nI_cl (by omega)
    have fin : ∀ s1, Upd s s1 1 → ∀ s2, Upd s1 s2 1 → RepW s2 1 (letterF F (nI r) name flow).2 → (¬ (letterF F (nI r) name flow).1.toInt < 0 → Q (some (.inl (s2.1 4 (4 * 1 + r) 2 - s2.1 4 (4 * 0 + r) 2))) s2) ∧ ((letterF F (nI r) name flow).1.toInt < 0 → Q (some (.inl (letterF F (nI r) name flow).1)) s2) := by
      intro s1 u1 s2 u2 R2
      have u := u1.trans u2
      have h := h s2 (u.fr (by omega)) (CL_upd hC u)
      by_cases hb : iN name 256 ∧ iN flow 100
      · have el : letterF F (nI r) name flow = sendF F r name flow := by unfold letterF; rw [if_neg (fun q => q hv), if_neg (fun q => q hb), en]
        have eq : askA F (nI r) name flow = (sendF F r name flow).2 (165 + 6 * r + 1) - F (165 + 6 * r + 1) := by unfold askA; rw [if_neg (fun q => q hv), if_neg (fun q => q hb), en]
        obtain ⟨a1, a2, a3⟩ := send_ok (flow := flow) hW.1 hr hb.1 hb.2.1
        rw [el] at R2 ⊢
        refine ⟨fun _ => ?_, fun q => by omega⟩
        have q1 := (R2.router (r := r) (by rw [cR_of a2]; exact hr)).2.1
        have q0 := ((u.rep (w' := 0) (by omega) hW.1 hp (by omega) hR).router hr).2.1
        rw [q1, q0, ← eq]
        exact h
      · have el : letterF F (nI r) name flow = (-2, F) := by unfold letterF; rw [if_neg (fun q => q hv), if_pos hb]
        have eq : askA F (nI r) name flow = -2 := by unfold askA; rw [if_neg (fun q => q hv), if_pos hb]
        rw [el]
        rw [eq] at h
        exact ⟨fun q => absurd (by decide : (-2 : Int32).toInt < 0) q, fun _ => h⟩
    clear h
    intro call hcall X hX; refine hX 1000 0 _ _ _ ?_
    repeat' (first | (intro hc) | (refine And.intro ?_ ?_) | (exact absurd nI_0 ‹cmpF 0 (nI 0) 0›) | (exact absurd ‹cmpT 0 (nI 1) 0› nI1_ne) | (exact absurd nI_0 ‹cmpT 1 (nI 0) 0›) | (exact absurd ‹cmpF 1 (nI 1) 0› nI1_ne) | (show wp _ _ _ _ _ _ _ _ _ _ _ _; conv => whnf) | (simp (disch := omega) only [nI_cl]) | (simp (disch := omega) only [nI_add, nI_mul, setN_now, setN_put, nI_cl, Nat.add_zero]) | (refine hcall _ _ _ _ ?_; first | (refine c_isRouter e3 r2 ?_) | (refine c_worldCopy hW.1 hp (w := 1) (w2 := 0) (by omega) (by omega) (by omega) hR (fun s1 u1 R1 => ?_)) | (refine c_sendLetter hW.1 (w := 1) (by omega) (u1.2.2 hp) R1 (fun s2 u2 R2 => ?_)) | fail))
    all_goals first
      | exact (fin _ u1 _ u2 R2).2 (by assumption)
      | exact (fin _ u1 _ u2 R2).1 (fun q0 => by have q1 := (by assumption : cmpT 3 (letterF F (nI r) name flow).1 0); have q2 : (0 : Int32).toInt ≤ (letterF F (nI r) name flow).1.toInt := q1; have q3 : (0 : Int32).toInt = 0 := rfl; omega)
      | (exfalso; exact bF hv (by assumption))
      | (simp (disch := omega) only [nI_toI, nI_cl, nI_add, nI_mul, alen11, alen12, alen13, alen14, alen15, alen16, alen17, alen18, alen19]; omega)
  · have e : askA F v name flow = -1 := by unfold askA; rw [if_pos hv]
    rw [e] at h
    have h := h s Fr.refl hC
    intro call hcall X hX; refine hX 1000 0 _ _ _ ?_
    repeat' (first | (intro hc) | (refine And.intro ?_ ?_) | (exact absurd nI_0 ‹cmpF 0 (nI 0) 0›) | (exact absurd ‹cmpT 0 (nI 1) 0› nI1_ne) | (exact absurd nI_0 ‹cmpT 1 (nI 0) 0›) | (exact absurd ‹cmpF 1 (nI 1) 0› nI1_ne) | (show wp _ _ _ _ _ _ _ _ _ _ _ _; conv => whnf) | (simp (disch := omega) only [nI_add, nI_mul, setN_now, setN_put, nI_cl, Nat.add_zero]) | (refine hcall _ _ _ _ ?_; first | (refine c_isRouter e3 r2 ?_) | fail))
    all_goals first
      | exact h
      | (exfalso; exact bT hv (by assumption))
end CLS26
