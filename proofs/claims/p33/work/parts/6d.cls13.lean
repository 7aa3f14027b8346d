/-! THE CLASS: new servers -/
section CLS13
variable {L : Nat} {xs : Nat → Int32} {f i k r p q c j n B b w w' m sd : Nat} {x y v a z l lo v0 v1 name flow place which : Int32} {s s' t : St} {F G F' u : Fm} {Q : Option MV → St → Prop} {P : Nat → Bool}
set_option maxHeartbeats 4000000 in
set_option maxRecDepth 100000 in
theorem c_newServer (hw : WF F B) (hp : permOk s) (h10 : w < 10) (hR : RepW s w F) (h : ∀ s', Upd s s' w → RepW s' w (serverF F v a z).2 → Q (some (.inl (serverF F v a z).1)) s') : wpM L xs codT retT (f + 3) m_X8_newServer [.inr (8, w), .inl v, .inl a, .inl z] s Q := by
  have r2 := hw.r2
  have s2 := hw.s2
  have t2 := hw.t2
  have e1 : s.1 8 w 3 = nI (cS F) := hR.s1.trans hw.s1
  by_cases hv : iN v (cS F)
  · obtain ⟨p, hp1, hpl⟩ := iN_nn hv (by omega)
    subst hp1
    have en : nn (nI p) = p := nI_cl (by omega)
    obtain ⟨p0, p1, p2⟩ := hR.server hpl
    by_cases hb1 : blkB a z
    · by_cases hb2 : holdF F p a z
      · by_cases hb3 : z.toInt < (F (5 + 3 * p + 2)).toInt
        · have e0 : serverF F (nI p) a z = if anyM F (nI p) a z (cS F) = true then (-3, F) else if cS F = 8 then (-4, F) else (nI (cS F), fun i => if i = 5 + 3 * cS F then nI p else if i = 5 + 3 * cS F + 1 then a else if i = 5 + 3 * cS F + 2 then z else if i = 1 then F 1 + nI 1 else F i) := by
            unfold serverF
            rw [if_neg (fun q => q hv), en, if_neg (fun q => q ⟨hb1, hb2, hb3⟩)]
          have hb3' : z.toInt < (s.1 1 (8 * w + p) 1).toInt := by rw [p2]; exact hb3
          intro call hcall X hX; refine hX 1000 0 _ _ _ ?_
          repeat' (first | (intro hc) | (refine And.intro ?_ ?_) | (exact absurd nI_0 ‹cmpF 0 (nI 0) 0›) | (exact absurd ‹cmpT 0 (nI 1) 0› nI1_ne) | (exact absurd nI_0 ‹cmpT 1 (nI 0) 0›) | (exact absurd ‹cmpF 1 (nI 1) 0› nI1_ne) | (show wp _ _ _ _ _ _ _ _ _ _ _ _; conv => whnf) | (simp (disch := omega) only [nI_cl]) | (simp (disch := omega) only [nI_add, nI_mul, setN_now, setN_put, nI_cl, Nat.add_zero]) | (refine hcall _ _ _ _ ?_; first | (refine c_isServer e1 s2.2 ?_) | (refine c_isBlock ?_) | (refine c_holds p1 p2 ?_) | fail))
          all_goals (try (exfalso; exact bF hv (by assumption)))
          all_goals (try (exfalso; exact bF hb1 (by assumption)))
          all_goals (try (exfalso; exact bF hb2 (by assumption)))
          all_goals (try (simp (disch := omega) only [nI_toI, nI_cl, nI_add, nI_mul, alen11, alen12, alen13, alen14, alen15, alen16, alen17, alen18, alen19]; omega))
          all_goals (try (exfalso; clear h e0 hb1 hb2 hv; (try clear hX hcall); (try clear h); (try simp (disch := omega) only [cmpT, cmpF, bI_eq0, bI_ne0, Classical.not_not, nI_toI, nI_cl, nI_inj, nI_add, nI_mul, nI_subI, takeL, setL, Int32.toInt_zero, Nat.add_zero, Nat.zero_mul, Nat.zero_add, alen11, alen12, alen13, alen14, alen15, alen16, alen17, alen18, alen19] at *); omega))
          simp (disch := omega) only [takeL, setL, nI_cl]
          have loop : ∀ j, j ≤ cS F → anyM F (nI p) a z j = false → X 54 [.inr (8, w), .inl (nI p), .inl a, .inl z, .inr (1, 8 * w + p), .inl (nI j)] [] s := by
            refine loopD (cS F) (fun j hj ih ha => ?_) (fun ha => ?_)
            · obtain ⟨r0, r1, rr2⟩ := hR.server hj
              by_cases hm : 1 ≤ j ∧ F (5 + 3 * j) = nI p ∧ meetF F j a z
              · have ha2 : anyM F (nI p) a z (j + 1) = true := by
                  show (_ || decide _) = true
                  rw [decide_eq_true hm, Bool.or_true]
                rw [if_pos (anyM_s ha2 (cS F) (by omega))] at e0
                rw [e0] at h
                have h := h s Upd.refl hR
                have hm1 : s.1 5 (8 * w + j) 1 = nI p := r0.trans hm.2.1
                have hm2 := hm.2.2
                clear ih e0
                refine hX 1000 54 _ _ _ ?_
                repeat' (first | (intro hc) | (refine And.intro ?_ ?_) | (exact absurd nI_0 ‹cmpF 0 (nI 0) 0›) | (exact absurd ‹cmpT 0 (nI 1) 0› nI1_ne) | (exact absurd nI_0 ‹cmpT 1 (nI 0) 0›) | (exact absurd ‹cmpF 1 (nI 1) 0› nI1_ne) | (show wp _ _ _ _ _ _ _ _ _ _ _ _; conv => whnf) | (simp (disch := omega) only [nI_cl]) | (simp (disch := omega) only [nI_add, nI_mul, setN_now, setN_put, nI_cl, Nat.add_zero]) | (refine hcall _ _ _ _ ?_; first | (refine c_meets r1 rr2 ?_) | fail))
                all_goals first
                  | exact h
                  | (exfalso; exact bF hm2 (by assumption))
                  | (simp (disch := omega) only [nI_toI, nI_cl, nI_add, nI_mul, alen11, alen12, alen13, alen14, alen15, alen16, alen17, alen18, alen19]; omega)
                  | (exfalso; clear h hm hm2 hX hcall; simp (disch := omega) only [cmpT, cmpF, nI_cl] at *; contradiction)
                  | (clear h hm hm2 hv hb1 hb2; (try clear hX hcall); (try clear h); (try simp (disch := omega) only [cmpT, cmpF, bI_eq0, bI_ne0, Classical.not_not, nI_toI, nI_cl, nI_inj, nI_add, nI_mul, nI_subI, takeL, setL, Int32.toInt_zero, Nat.add_zero, setN_now, alen20, alen11, alen12, alen13, alen14, alen15, alen16, alen17, alen18, alen19, (id e1)] at *); omega)
              · have ha2 : anyM F (nI p) a z (j + 1) = false := by
                  show (_ || decide _) = false
                  rw [ha, decide_eq_false hm]
                  rfl
                replace ih := ih ha2
                have hm2 : s.1 5 (8 * w + j) 1 = nI p → ¬ meetF F j a z := fun q1 q2 => by
                  by_cases h0 : j = 0
                  · subst h0
                    have ep : F (5 + 3 * 0) = -5 := (hw.server hj).2.1 rfl
                    exact nI_n5 (by omega) (q1.symm.trans (r0.trans ep))
                  · exact hm ⟨by omega, r0.symm.trans q1, q2⟩
                clear h e0 hm
                refine hX 1000 54 _ _ _ ?_
                repeat' (first | (intro hc) | (refine And.intro ?_ ?_) | (exact absurd nI_0 ‹cmpF 0 (nI 0) 0›) | (exact absurd ‹cmpT 0 (nI 1) 0› nI1_ne) | (exact absurd nI_0 ‹cmpT 1 (nI 0) 0›) | (exact absurd ‹cmpF 1 (nI 1) 0› nI1_ne) | (show wp _ _ _ _ _ _ _ _ _ _ _ _; conv => whnf) | (simp (disch := omega) only [nI_cl]) | (simp (disch := omega) only [nI_add, nI_mul, setN_now, setN_put, nI_cl, Nat.add_zero]) | (refine hcall _ _ _ _ ?_; first | (refine c_meets r1 rr2 ?_) | fail))
                all_goals first
                  | (simp only [takeL, setL, nI_add]; exact ih)
                  | (simp (disch := omega) only [nI_toI, nI_cl, nI_add, nI_mul, alen11, alen12, alen13, alen14, alen15, alen16, alen17, alen18, alen19]; omega)
                  | (exfalso; refine hm2 ?_ (bI_ne0.mp (by assumption)); clear hm2 ih hX hcall; simp (disch := omega) only [cmpT, cmpF, nI_cl] at *; assumption)
                  | (clear ih hm2 hv hb1 hb2; (try clear hX hcall); (try clear h); (try simp (disch := omega) only [cmpT, cmpF, bI_eq0, bI_ne0, Classical.not_not, nI_toI, nI_cl, nI_inj, nI_add, nI_mul, nI_subI, takeL, setL, Int32.toInt_zero, Nat.add_zero, setN_now, alen20, alen11, alen12, alen13, alen14, alen15, alen16, alen17, alen18, alen19, (id e1)] at *); omega)
            · rw [if_neg (by rw [ha]; decide)] at e0
              by_cases h8 : cS F = 8
              · rw [if_pos h8] at e0
                rw [e0] at h
                have h := h s Upd.refl hR
                clear e0
                refine hX 1000 54 _ _ _ ?_
                repeat' (first | (intro hc) | (refine And.intro ?_ ?_) | (exact absurd nI_0 ‹cmpF 0 (nI 0) 0›) | (exact absurd ‹cmpT 0 (nI 1) 0› nI1_ne) | (exact absurd nI_0 ‹cmpT 1 (nI 0) 0›) | (exact absurd ‹cmpF 1 (nI 1) 0› nI1_ne) | (show wp _ _ _ _ _ _ _ _ _ _ _ _; conv => whnf))
                all_goals first
                  | exact h
                  | (clear h hv hb1 hb2; (try clear hX hcall); (try clear h); (try simp (disch := omega) only [cmpT, cmpF, bI_eq0, bI_ne0, Classical.not_not, nI_toI, nI_cl, nI_inj, nI_add, nI_mul, nI_subI, takeL, setL, Int32.toInt_zero, Nat.add_zero, setN_now, alen20, alen11, alen12, alen13, alen14, alen15, alen16, alen17, alen18, alen19, (id e1)] at *); omega)
              · rw [if_neg h8] at e0
                rw [e0] at h
                dsimp only at h
                have hF : ∀ i, i ≠ 1 → (i < 5 + 3 * cS F ∨ 5 + 3 * cS F + 3 ≤ i) → (fun i => if i = 5 + 3 * cS F then nI p else if i = 5 + 3 * cS F + 1 then a else if i = 5 + 3 * cS F + 2 then z else if i = 1 then F 1 + nI 1 else F i) i = F i := fun i h1 h2 => by
                  dsimp only
                  rw [if_neg (by omega), if_neg (by omega), if_neg (by omega), if_neg h1]
                have hF1 : (fun i => if i = 5 + 3 * cS F then nI p else if i = 5 + 3 * cS F + 1 then a else if i = 5 + 3 * cS F + 2 then z else if i = 1 then F 1 + nI 1 else F i) 1 = nI (cS F + 1) := by
                  dsimp only
                  rw [if_neg (by omega), if_neg (by omega), if_neg (by omega), if_pos rfl, hw.s1, nI_add]
                have f0 : (fun i => if i = 5 + 3 * cS F then nI p else if i = 5 + 3 * cS F + 1 then a else if i = 5 + 3 * cS F + 2 then z else if i = 1 then F 1 + nI 1 else F i) (5 + 3 * cS F) = nI p := if_pos rfl
                have f1 : (fun i => if i = 5 + 3 * cS F then nI p else if i = 5 + 3 * cS F + 1 then a else if i = 5 + 3 * cS F + 2 then z else if i = 1 then F 1 + nI 1 else F i) (5 + 3 * cS F + 1) = a := by
                  dsimp only
                  rw [if_neg (by omega), if_pos rfl]
                have f2 : (fun i => if i = 5 + 3 * cS F then nI p else if i = 5 + 3 * cS F + 1 then a else if i = 5 + 3 * cS F + 2 then z else if i = 1 then F 1 + nI 1 else F i) (5 + 3 * cS F + 2) = z := by
                  dsimp only
                  rw [if_neg (by omega), if_neg (by omega), if_pos rfl]
                generalize hG : (fun i => if i = 5 + 3 * cS F then nI p else if i = 5 + 3 * cS F + 1 then a else if i = 5 + 3 * cS F + 2 then z else if i = 1 then F 1 + nI 1 else F i) = F1 at *
                have fin : Q (some (.inl (nI (cS F)))) (putV (putV (putV (putV s 1 (8 * w + cS F) 0 a) 1 (8 * w + cS F) 1 z) 5 (8 * w + cS F) 1 (nI p)) 8 w 3 (nI (cS F + 1))) := by
                  have eT : cT F1 = cT F := by unfold cT; rw [hF 2 (by omega) (by omega)]
                  have eR : cR F1 = cR F := by unfold cR; rw [hF 3 (by omega) (by omega)]
                  have eS : cS F1 = cS F + 1 := by unfold cS at hF1 ⊢; rw [hF1]; exact nI_cl (by unfold cS at s2; omega)
                  refine h _ ((((Upd_put (own_1a h10 (by omega))).put (own_1a h10 (by omega))).put (own_5 (by omega))).put rfl) ⟨?_, fun k hk => ?_, fun k hk => ?_, fun r hk => ?_⟩
                  · refine ⟨?_, ?_, ?_, ?_, ?_⟩
                    · rw [putV_at, hF1]
                    · simp (disch := omega) only [putV_ne]; rw [hF 2 (by omega) (by omega)]; exact hR.t1
                    · simp (disch := omega) only [putV_ne]; rw [hF 3 (by omega) (by omega)]; exact hR.r1
                    · simp (disch := omega) only [putV_ne]; rw [hF 0 (by omega) (by omega)]; exact hR.h1
                    · simp (disch := omega) only [putV_ne]; rw [hF 4 (by omega) (by omega)]; exact hR.l1
                  · by_cases e : k = cS F
                    · subst e
                      refine ⟨?_, ?_, ?_⟩
                      · simp (disch := omega) only [putV_ne, putV_at]; rw [f0]
                      · simp (disch := omega) only [putV_ne, putV_at]; rw [f1]
                      · simp (disch := omega) only [putV_ne, putV_at]; rw [f2]
                    · exact repServer_cg (fun j => by simp (disch := omega) only [putV_ne]) (fun j => by simp (disch := omega) only [putV_ne]) (fun i a b => hF i (by omega) (by omega)) (hR.server (by omega))
                  · exact repSite_cg (fun j => by simp (disch := omega) only [putV_ne]) (fun j => by simp (disch := omega) only [putV_ne]) (fun j _ => by simp (disch := omega) only [putV_ne]) (fun i a b => hF i (by omega) (by omega)) (hR.site (by omega))
                  · have m0 := mA_eq r 0
                    have wr := hw.router (r := r) (by omega)
                    have o1 : ∀ m, m < 80 → ownR 1 m = 999 := fun m hm => if_pos (by omega)
                    have g := repRouter_s (s' := putV (putV (putV (putV s 1 (8 * w + cS F) 0 a) 1 (8 * w + cS F) 1 z) 5 (8 * w + cS F) 1 (nI p)) 8 w 3 (nI (cS F + 1))) wr hp (i := 4 * w + r) (by omega) ((((sameR_put (by rw [o1 _ (by omega)]; omega)).put (by rw [o1 _ (by omega)]; omega)).put (fun q => by have q : 999 = 4 * w + r := q; omega)).put (fun q => by have q : 999 = 4 * w + r := q; omega)) (hR.router (by omega))
                    exact repRouter_F wr (fun i a b => hF i (by omega) (by omega)) (fun i a b => hF i (by omega) (by omega)) (fun t ht => ⟨hF _ (by omega) (by omega), hF _ (by omega) (by omega)⟩) g
                clear h e0
                have q1 : ∀ x y : Int32, (putV (putV s 1 (8 * w + cS F) 0 x) 1 (8 * w + cS F) 1 y).1 8 w 3 = nI (cS F) := fun x y => by simp (disch := omega) only [putV_ne]; exact e1
                have q2 : ∀ x y y2 : Int32, (putV (putV (putV s 1 (8 * w + cS F) 0 x) 1 (8 * w + cS F) 1 y) 5 (8 * w + cS F) 1 y2).1 8 w 3 = nI (cS F) := fun x y y2 => by simp (disch := omega) only [putV_ne]; exact e1
                refine hX 1000 54 _ _ _ ?_
                repeat' (first | (intro hc) | (refine And.intro ?_ ?_) | (exact absurd nI_0 ‹cmpF 0 (nI 0) 0›) | (exact absurd ‹cmpT 0 (nI 1) 0› nI1_ne) | (exact absurd nI_0 ‹cmpT 1 (nI 0) 0›) | (exact absurd ‹cmpF 1 (nI 1) 0› nI1_ne) | (show wp _ _ _ _ _ _ _ _ _ _ _ _; conv => whnf) | (rw [e1]) | (rw [q1]) | (rw [q2]) | (simp (disch := omega) only [nI_cl]) | (simp (disch := omega) only [nI_add, nI_mul, setN_now, setN_put, nI_cl, Nat.add_zero]) | (refine hcall _ _ _ _ ?_; first | (refine c_become ?_) | fail))
                all_goals first
                  | exact fin
                  | (rw [q2, putV_at, nI_add, nI_sub (by omega) (by omega), Nat.add_sub_cancel]; exact fin)
                  | (rw [putV_at, nI_add, nI_sub (by omega) (by omega), Nat.add_sub_cancel]; exact fin)
                  | (simp (disch := omega) only [nI_toI, nI_cl, nI_add, nI_mul, alen11, alen12, alen13, alen14, alen15, alen16, alen17, alen18, alen19]; omega)
                  | (rw [putV_at, nI_sub (by omega) (by omega), Nat.add_sub_cancel]; exact fin)
                  | (clear fin hv hb1 hb2; (try clear hX hcall); (try clear h); (try simp (disch := omega) only [cmpT, cmpF, bI_eq0, bI_ne0, Classical.not_not, nI_toI, nI_cl, nI_inj, nI_add, nI_mul, nI_subI, takeL, setL, Int32.toInt_zero, Nat.add_zero, setN_now, alen20, alen11, alen12, alen13, alen14, alen15, alen16, alen17, alen18, alen19, (id e1)] at *); omega)
          exact loop 0 (by omega) rfl
        · have e : serverF F (nI p) a z = (-2, F) := by
            unfold serverF
            rw [if_neg (fun q => q hv), en, if_pos (fun q => hb3 q.2.2)]
          rw [e] at h
          have h := h s Upd.refl hR
          have hb3' : ¬ z.toInt < (s.1 1 (8 * w + p) 1).toInt := by rw [p2]; exact hb3
          intro call hcall X hX; refine hX 1000 0 _ _ _ ?_
          repeat' (first | (intro hc) | (refine And.intro ?_ ?_) | (exact absurd nI_0 ‹cmpF 0 (nI 0) 0›) | (exact absurd ‹cmpT 0 (nI 1) 0› nI1_ne) | (exact absurd nI_0 ‹cmpT 1 (nI 0) 0›) | (exact absurd ‹cmpF 1 (nI 1) 0› nI1_ne) | (show wp _ _ _ _ _ _ _ _ _ _ _ _; conv => whnf) | (simp (disch := omega) only [nI_cl]) | (simp (disch := omega) only [nI_add, nI_mul, setN_now, setN_put, nI_cl, Nat.add_zero]) | (refine hcall _ _ _ _ ?_; first | (refine c_isServer e1 s2.2 ?_) | (refine c_isBlock ?_) | (refine c_holds p1 p2 ?_) | fail))
          all_goals first
            | exact h
            | (exfalso; exact bF hv (by assumption))
            | (exfalso; exact bF hb1 (by assumption))
            | (exfalso; exact bF hb2 (by assumption))
            | (simp (disch := omega) only [nI_toI, nI_cl, nI_add, nI_mul, alen11, alen12, alen13, alen14, alen15, alen16, alen17, alen18, alen19]; omega)
            | (exfalso; clear h e hb1 hb2 hv; (try clear hX hcall); (try clear h); (try simp (disch := omega) only [cmpT, cmpF, bI_eq0, bI_ne0, Classical.not_not, nI_toI, nI_cl, nI_inj, nI_add, nI_mul, nI_subI, takeL, setL, Int32.toInt_zero, Nat.add_zero, Nat.zero_mul, Nat.zero_add, alen11, alen12, alen13, alen14, alen15, alen16, alen17, alen18, alen19] at *); omega)
      · have e : serverF F (nI p) a z = (-2, F) := by
          unfold serverF
          rw [if_neg (fun q => q hv), en, if_pos (fun q => hb2 q.2.1)]
        rw [e] at h
        have h := h s Upd.refl hR
        intro call hcall X hX; refine hX 1000 0 _ _ _ ?_
        repeat' (first | (intro hc) | (refine And.intro ?_ ?_) | (exact absurd nI_0 ‹cmpF 0 (nI 0) 0›) | (exact absurd ‹cmpT 0 (nI 1) 0› nI1_ne) | (exact absurd nI_0 ‹cmpT 1 (nI 0) 0›) | (exact absurd ‹cmpF 1 (nI 1) 0› nI1_ne) | (show wp _ _ _ _ _ _ _ _ _ _ _ _; conv => whnf) | (simp (disch := omega) only [nI_cl]) | (simp (disch := omega) only [nI_add, nI_mul, setN_now, setN_put, nI_cl, Nat.add_zero]) | (refine hcall _ _ _ _ ?_; first | (refine c_isServer e1 s2.2 ?_) | (refine c_isBlock ?_) | (refine c_holds p1 p2 ?_) | fail))
        all_goals first
          | exact h
          | (exfalso; exact bF hv (by assumption))
          | (exfalso; exact bF hb1 (by assumption))
          | (exfalso; exact bT hb2 (by assumption))
          | (simp (disch := omega) only [nI_toI, nI_cl, nI_add, nI_mul, alen11, alen12, alen13, alen14, alen15, alen16, alen17, alen18, alen19]; omega)
    · have e : serverF F (nI p) a z = (-2, F) := by
        unfold serverF
        rw [if_neg (fun q => q hv), en, if_pos (fun q => hb1 q.1)]
      rw [e] at h
      have h := h s Upd.refl hR
      intro call hcall X hX; refine hX 1000 0 _ _ _ ?_
      repeat' (first | (intro hc) | (refine And.intro ?_ ?_) | (exact absurd nI_0 ‹cmpF 0 (nI 0) 0›) | (exact absurd ‹cmpT 0 (nI 1) 0› nI1_ne) | (exact absurd nI_0 ‹cmpT 1 (nI 0) 0›) | (exact absurd ‹cmpF 1 (nI 1) 0› nI1_ne) | (show wp _ _ _ _ _ _ _ _ _ _ _ _; conv => whnf) | (simp (disch := omega) only [nI_cl]) | (simp (disch := omega) only [nI_add, nI_mul, setN_now, setN_put, nI_cl, Nat.add_zero]) | (refine hcall _ _ _ _ ?_; first | (refine c_isServer e1 s2.2 ?_) | (refine c_isBlock ?_) | fail))
      all_goals first
        | exact h
        | (exfalso; exact bF hv (by assumption))
        | (exfalso; exact bT hb1 (by assumption))
        | (simp (disch := omega) only [nI_toI, nI_cl, nI_add, nI_mul, alen11, alen12, alen13, alen14, alen15, alen16, alen17, alen18, alen19]; omega)
  · have e : serverF F v a z = (-1, F) := by unfold serverF; rw [if_pos hv]
    rw [e] at h
    have h := h s Upd.refl hR
    intro call hcall X hX; refine hX 1000 0 _ _ _ ?_
    repeat' (first | (intro hc) | (refine And.intro ?_ ?_) | (exact absurd nI_0 ‹cmpF 0 (nI 0) 0›) | (exact absurd ‹cmpT 0 (nI 1) 0› nI1_ne) | (exact absurd nI_0 ‹cmpT 1 (nI 0) 0›) | (exact absurd ‹cmpF 1 (nI 1) 0› nI1_ne) | (show wp _ _ _ _ _ _ _ _ _ _ _ _; conv => whnf) | (simp (disch := omega) only [nI_add, nI_mul, setN_now, setN_put, nI_cl, Nat.add_zero]) | (refine hcall _ _ _ _ ?_; first | (refine c_isServer e1 s2.2 ?_) | fail))
    all_goals first
      | exact h
      | (exfalso; exact bT hv (by assumption))
end CLS13
