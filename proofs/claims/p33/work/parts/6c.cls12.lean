/-! THE CLASS: new sites -/
section CLS12
variable {L : Nat} {xs : Nat → Int32} {f i k r p q c j n B b w w' m sd : Nat} {x y v a z l lo v0 v1 name flow place which : Int32} {s s' t : St} {F G F' u : Fm} {Q : Option MV → St → Prop} {P : Nat → Bool}
set_option maxHeartbeats 4000000 in
set_option maxRecDepth 100000 in
theorem c_become (h : Q none (putV (putV s 1 b 0 a) 1 b 1 z)) : wpM L xs codT retT (f + 1) m_X1_become [.inr (1, b), .inl a, .inl z] s Q := by
  intro call hcall X hX; refine hX 1000 0 _ _ _ ?_
  repeat' (first | (intro hc) | (refine And.intro ?_ ?_) | (exact absurd nI_0 ‹cmpF 0 (nI 0) 0›) | (exact absurd ‹cmpT 0 (nI 1) 0› nI1_ne) | (exact absurd nI_0 ‹cmpT 1 (nI 0) 0›) | (exact absurd ‹cmpF 1 (nI 1) 0› nI1_ne) | (show wp _ _ _ _ _ _ _ _ _ _ _ _; conv => whnf))
  exact h
set_option maxHeartbeats 4000000 in
set_option maxRecDepth 100000 in
theorem c_siteStart (h80 : i < 80) (h : ∀ s', (∀ c j m, ownS c j ≠ i → s'.1 c j m = s.1 c j m) → s'.2 = s.2 → s'.1 1 (80 + i) 0 = a → s'.1 1 (80 + i) 1 = z → s'.1 6 i 2 = l → s'.1 6 i 3 = nI 1 → s'.1 6 i 4 = nI 0 → (∀ m, m < 9 → s'.1 15 i m = nI 0) → Q none s') : wpM L xs codT retT (f + 3) m_X6_start [.inr (6, i), .inl a, .inl z, .inl l] s Q := by
  have oS1 : ownS 1 (80 + i) = i := by
    show (if 80 + i < 80 then 999 else if 80 + i < 160 then 80 + i - 80 else 999) = i
    rw [if_neg (by omega), if_pos (by omega)]; omega
  have oS15 : ownS 15 i = i := if_pos h80
  intro call hcall X hX; refine hX 1000 0 _ _ _ ?_
  repeat' (first | (intro hc) | (refine And.intro ?_ ?_) | (exact absurd nI_0 ‹cmpF 0 (nI 0) 0›) | (exact absurd ‹cmpT 0 (nI 1) 0› nI1_ne) | (exact absurd nI_0 ‹cmpT 1 (nI 0) 0›) | (exact absurd ‹cmpF 1 (nI 1) 0› nI1_ne) | (show wp _ _ _ _ _ _ _ _ _ _ _ _; conv => whnf) | (simp (disch := omega) only [nI_add, nI_mul, setN_now, setN_put, nI_cl, Nat.add_zero]) | (refine hcall _ _ _ _ ?_; first | (refine c_become ?_) | fail))
  simp only [takeL, setL, pushW]
  have loop : ∀ j k s', k + j = 3 → (∀ c j m, ownS c j ≠ i → s'.1 c j m = s.1 c j m) → s'.2 = s.2 → s'.1 1 (80 + i) 0 = a → s'.1 1 (80 + i) 1 = z → s'.1 6 i 2 = l → s'.1 6 i 3 = nI 1 → s'.1 6 i 4 = nI 0 → (∀ m, m < 3 * k → s'.1 15 i m = nI 0) → X 27 [.inr (6, i), .inl a, .inl z, .inl l, .inl (nI k)] [] s' := by
    intro j
    induction j with
    | zero =>
      intro k s' hk g1 g2 g3 g4 g5 g6 g7 g8
      have h := h s' g1 g2 g3 g4 g5 g6 g7 (fun m hm => g8 m (by omega))
      refine hX 1000 27 _ _ _ ?_
      repeat' (first | (intro hc) | (refine And.intro ?_ ?_) | (exact absurd nI_0 ‹cmpF 0 (nI 0) 0›) | (exact absurd ‹cmpT 0 (nI 1) 0› nI1_ne) | (exact absurd nI_0 ‹cmpT 1 (nI 0) 0›) | (exact absurd ‹cmpF 1 (nI 1) 0› nI1_ne) | (show wp _ _ _ _ _ _ _ _ _ _ _ _; conv => whnf))
      all_goals first
        | exact h
        | ((try clear hX hcall); (try clear h); (try simp (disch := omega) only [cmpT, cmpF, bI_eq0, bI_ne0, Classical.not_not, nI_toI, nI_cl, nI_inj, nI_add, nI_mul, nI_subI, takeL, setL, Int32.toInt_zero, Nat.add_zero, Nat.zero_mul, Nat.zero_add, alen11, alen12, alen13, alen14, alen15, alen16, alen17, alen18, alen19] at *); omega)
    | succ j ih =>
      intro k s' hk g1 g2 g3 g4 g5 g6 g7 g8
      have hk3 : k < 3 := by omega
      have ih := ih (k + 1) (putV (putV (putV s' 15 i (k * 3) (nI 0)) 15 i (k * 3 + 1) (nI 0)) 15 i (k * 3 + 2) (nI 0)) (by omega) (site_put (site_put (site_put g1 oS15) oS15) oS15) g2 (by simp (disch := omega) only [putV_ne]; exact g3) (by simp (disch := omega) only [putV_ne]; exact g4) (by simp (disch := omega) only [putV_ne]; exact g5) (by simp (disch := omega) only [putV_ne]; exact g6) (by simp (disch := omega) only [putV_ne]; exact g7) (fun m hm => by
        have hm3 : m = k * 3 ∨ m = k * 3 + 1 ∨ m = k * 3 + 2 ∨ m < 3 * k := by omega
        rcases hm3 with t | t | t | t
        · subst t; simp (disch := omega) only [putV_ne, putV_at]
        · subst t; simp (disch := omega) only [putV_ne, putV_at]
        · subst t; simp (disch := omega) only [putV_at]
        · simp (disch := omega) only [putV_ne]; exact g8 m t)
      clear h
      refine hX 1000 27 _ _ _ ?_
      repeat' (first | (intro hc) | (refine And.intro ?_ ?_) | (exact absurd nI_0 ‹cmpF 0 (nI 0) 0›) | (exact absurd ‹cmpT 0 (nI 1) 0› nI1_ne) | (exact absurd nI_0 ‹cmpT 1 (nI 0) 0›) | (exact absurd ‹cmpF 1 (nI 1) 0› nI1_ne) | (show wp _ _ _ _ _ _ _ _ _ _ _ _; conv => whnf) | (simp (disch := omega) only [nI_add, nI_mul, setN_now, setN_put, nI_cl, Nat.add_zero]) | (refine hcall _ _ _ _ ?_; first | (refine c_fill hk3 ?_) | fail))
      all_goals first
        | (simp only [takeL, setL, nI_add, pushW]; exact ih)
        | ((try clear hX hcall); (try clear h); (try simp (disch := omega) only [cmpT, cmpF, bI_eq0, bI_ne0, Classical.not_not, nI_toI, nI_cl, nI_inj, nI_add, nI_mul, nI_subI, takeL, setL, Int32.toInt_zero, Nat.add_zero, Nat.zero_mul, Nat.zero_add, alen11, alen12, alen13, alen14, alen15, alen16, alen17, alen18, alen19] at *); omega)
  refine loop 3 0 _ rfl ?_ rfl ?_ ?_ ?_ ?_ ?_ (fun m hm => absurd hm (by omega))
  · exact site_put (site_put (site_put (site_put (site_put site_0 oS1) oS1) rfl) rfl) rfl
  · simp (disch := omega) only [putV_ne, putV_at]
  · simp (disch := omega) only [putV_ne, putV_at]
  · simp (disch := omega) only [putV_ne, putV_at]
  · simp (disch := omega) only [putV_ne, putV_at]
  · simp (disch := omega) only [putV_at]
theorem ownS_W (h : ownS c j = 8 * w + k) (hk : k < 8) (hw : w < 10) : ownW c j = w := by
  unfold ownS at h
  split at h
  · show j / 8 = w; omega
  · show (if j < 80 then j / 8 else if j < 160 then (j - 80) / 8 else (j - 160) / 20) = w
    split at h
    · omega
    · split at h
      · rw [if_neg (by omega), if_pos (by omega)]; omega
      · omega
  · show (if j < 80 then j / 8 else (j - 80) / 20) = w
    split at h
    · rw [if_pos (by omega)]; omega
    · omega
  · omega
set_option maxHeartbeats 4000000 in
set_option maxRecDepth 100000 in
theorem c_newSite (hw : WF F B) (hp : permOk s) (h10 : w < 10) (hR : RepW s w F) (h : ∀ s', Upd s s' w → RepW s' w (siteF F a z l).2 → Q (some (.inl (siteF F a z l).1)) s') : wpM L xs codT retT (f + 4) m_X8_newSite [.inr (8, w), .inl a, .inl z, .inl l] s Q := by
  have r2 := hw.r2
  have s2 := hw.s2
  have t2 := hw.t2
  have e2 : s.1 8 w 4 = nI (cT F) := hR.t1.trans hw.t1
  by_cases hb : blkB a z ∧ 1 ≤ l.toInt ∧ l.toInt ≤ 48
  · have e0 : siteF F a z l = if anyS F a z (cT F) = true then (-3, F) else if cT F = 8 then (-4, F) else (nI (cT F), fun i => if i = 29 + 17 * cT F then a else if i = 29 + 17 * cT F + 1 then z else if i = 29 + 17 * cT F + 2 then l else if i = 29 + 17 * cT F + 3 then nI 1 else if 29 + 17 * cT F + 4 ≤ i ∧ i < 29 + 17 * cT F + 17 then nI 0 else if i = 2 then F 2 + nI 1 else F i) := by
      unfold siteF
      rw [if_neg (fun q => q hb)]
    have loop : ∀ (call : Nat → List MV → St → (Option MV → St → Prop) → Prop), (∀ (m : Nat) (as : List MV) (s : St) (Q : Option MV → St → Prop), wpM L xs codT retT (f + 3) m as s Q → call m as s Q) → ∀ X : Nat → List MV → List MV → St → Prop, (∀ (n pc : Nat) (ls st : List MV) (s : St), wp call L xs (retT m_X8_newSite) Q X (codT m_X8_newSite) n (behind (fromPc (codT m_X8_newSite) pc)) ls st s → X pc ls st s) → ∀ j, j ≤ cT F → anyS F a z j = false → X 25 [.inr (8, w), .inl a, .inl z, .inl l, .inl (nI j)] [] s := by
      intro call hcall X hX
      refine loopD (cT F) (fun j hj ih ha => ?_) (fun ha => ?_)
      · obtain ⟨r0, r1, -⟩ := hR.site hj
        by_cases hm : F (29 + 17 * j) = a ∧ F (29 + 17 * j + 1) = z
        · have ha2 : anyS F a z (j + 1) = true := by
            show (_ || decide _) = true
            rw [decide_eq_true hm, Bool.or_true]
          rw [if_pos (anyS_s ha2 (cT F) (by omega))] at e0
          rw [e0] at h
          have h := h s Upd.refl hR
          clear ih e0
          refine hX 1000 25 _ _ _ ?_
          repeat' (first | (intro hc) | (refine And.intro ?_ ?_) | (exact absurd nI_0 ‹cmpF 0 (nI 0) 0›) | (exact absurd ‹cmpT 0 (nI 1) 0› nI1_ne) | (exact absurd nI_0 ‹cmpT 1 (nI 0) 0›) | (exact absurd ‹cmpF 1 (nI 1) 0› nI1_ne) | (show wp _ _ _ _ _ _ _ _ _ _ _ _; conv => whnf) | (simp (disch := omega) only [nI_cl]) | (simp (disch := omega) only [nI_add, nI_mul, setN_now, setN_put, nI_cl, Nat.add_zero]) | (refine hcall _ _ _ _ ?_; first | (refine c_isAt r0 r1 ?_) | fail))
          all_goals first
            | exact h
            | (exfalso; exact bF hm (by assumption))
            | (clear h hm; (try clear hX hcall); (try clear h); (try simp (disch := omega) only [cmpT, cmpF, bI_eq0, bI_ne0, Classical.not_not, nI_toI, nI_cl, nI_inj, nI_add, nI_mul, nI_subI, takeL, setL, Int32.toInt_zero, Nat.add_zero, setN_now, alen20, alen11, alen12, alen13, alen14, alen15, alen16, alen17, alen18, alen19, (id e2)] at *); omega)
        · have ha2 : anyS F a z (j + 1) = false := by
            show (_ || decide _) = false
            rw [ha, decide_eq_false hm]
            rfl
          replace ih := ih ha2
          clear h e0
          refine hX 1000 25 _ _ _ ?_
          repeat' (first | (intro hc) | (refine And.intro ?_ ?_) | (exact absurd nI_0 ‹cmpF 0 (nI 0) 0›) | (exact absurd ‹cmpT 0 (nI 1) 0› nI1_ne) | (exact absurd nI_0 ‹cmpT 1 (nI 0) 0›) | (exact absurd ‹cmpF 1 (nI 1) 0› nI1_ne) | (show wp _ _ _ _ _ _ _ _ _ _ _ _; conv => whnf) | (simp (disch := omega) only [nI_cl]) | (simp (disch := omega) only [nI_add, nI_mul, setN_now, setN_put, nI_cl, Nat.add_zero]) | (refine hcall _ _ _ _ ?_; first | (refine c_isAt r0 r1 ?_) | fail))
          all_goals first
            | (simp only [takeL, setL, nI_add]; exact ih)
            | (exfalso; exact bT hm (by assumption))
            | (clear ih hm; (try clear hX hcall); (try clear h); (try simp (disch := omega) only [cmpT, cmpF, bI_eq0, bI_ne0, Classical.not_not, nI_toI, nI_cl, nI_inj, nI_add, nI_mul, nI_subI, takeL, setL, Int32.toInt_zero, Nat.add_zero, setN_now, alen20, alen11, alen12, alen13, alen14, alen15, alen16, alen17, alen18, alen19, (id e2)] at *); omega)
      · rw [if_neg (by rw [ha]; decide)] at e0
        by_cases h8 : cT F = 8
        · rw [if_pos h8] at e0
          rw [e0] at h
          have h := h s Upd.refl hR
          clear e0
          refine hX 1000 25 _ _ _ ?_
          repeat' (first | (intro hc) | (refine And.intro ?_ ?_) | (exact absurd nI_0 ‹cmpF 0 (nI 0) 0›) | (exact absurd ‹cmpT 0 (nI 1) 0› nI1_ne) | (exact absurd nI_0 ‹cmpT 1 (nI 0) 0›) | (exact absurd ‹cmpF 1 (nI 1) 0› nI1_ne) | (show wp _ _ _ _ _ _ _ _ _ _ _ _; conv => whnf))
          all_goals first
            | exact h
            | (clear h; (try clear hX hcall); (try clear h); (try simp (disch := omega) only [cmpT, cmpF, bI_eq0, bI_ne0, Classical.not_not, nI_toI, nI_cl, nI_inj, nI_add, nI_mul, nI_subI, takeL, setL, Int32.toInt_zero, Nat.add_zero, setN_now, alen20, alen11, alen12, alen13, alen14, alen15, alen16, alen17, alen18, alen19, (id e2)] at *); omega)
        · rw [if_neg h8] at e0
          rw [e0] at h
          dsimp only at h
          have hF : ∀ i, i ≠ 2 → (i < 29 + 17 * cT F ∨ 29 + 17 * cT F + 17 ≤ i) → (fun i => if i = 29 + 17 * cT F then a else if i = 29 + 17 * cT F + 1 then z else if i = 29 + 17 * cT F + 2 then l else if i = 29 + 17 * cT F + 3 then nI 1 else if 29 + 17 * cT F + 4 ≤ i ∧ i < 29 + 17 * cT F + 17 then nI 0 else if i = 2 then F 2 + nI 1 else F i) i = F i := fun i h1 h2 => by
            dsimp only
            rw [if_neg (by omega), if_neg (by omega), if_neg (by omega), if_neg (by omega), if_neg (by omega), if_neg h1]
          have hF2 : (fun i => if i = 29 + 17 * cT F then a else if i = 29 + 17 * cT F + 1 then z else if i = 29 + 17 * cT F + 2 then l else if i = 29 + 17 * cT F + 3 then nI 1 else if 29 + 17 * cT F + 4 ≤ i ∧ i < 29 + 17 * cT F + 17 then nI 0 else if i = 2 then F 2 + nI 1 else F i) 2 = nI (cT F + 1) := by
            dsimp only
            rw [if_neg (by omega), if_neg (by omega), if_neg (by omega), if_neg (by omega), if_neg (by omega), if_pos rfl, hw.t1, nI_add]
          have f0 : (fun i => if i = 29 + 17 * cT F then a else if i = 29 + 17 * cT F + 1 then z else if i = 29 + 17 * cT F + 2 then l else if i = 29 + 17 * cT F + 3 then nI 1 else if 29 + 17 * cT F + 4 ≤ i ∧ i < 29 + 17 * cT F + 17 then nI 0 else if i = 2 then F 2 + nI 1 else F i) (29 + 17 * cT F) = a := if_pos rfl
          have f1 : (fun i => if i = 29 + 17 * cT F then a else if i = 29 + 17 * cT F + 1 then z else if i = 29 + 17 * cT F + 2 then l else if i = 29 + 17 * cT F + 3 then nI 1 else if 29 + 17 * cT F + 4 ≤ i ∧ i < 29 + 17 * cT F + 17 then nI 0 else if i = 2 then F 2 + nI 1 else F i) (29 + 17 * cT F + 1) = z := by
            dsimp only
            rw [if_neg (by omega), if_pos rfl]
          have f2 : (fun i => if i = 29 + 17 * cT F then a else if i = 29 + 17 * cT F + 1 then z else if i = 29 + 17 * cT F + 2 then l else if i = 29 + 17 * cT F + 3 then nI 1 else if 29 + 17 * cT F + 4 ≤ i ∧ i < 29 + 17 * cT F + 17 then nI 0 else if i = 2 then F 2 + nI 1 else F i) (29 + 17 * cT F + 2) = l := by
            dsimp only
            rw [if_neg (by omega), if_neg (by omega), if_pos rfl]
          have f3 : (fun i => if i = 29 + 17 * cT F then a else if i = 29 + 17 * cT F + 1 then z else if i = 29 + 17 * cT F + 2 then l else if i = 29 + 17 * cT F + 3 then nI 1 else if 29 + 17 * cT F + 4 ≤ i ∧ i < 29 + 17 * cT F + 17 then nI 0 else if i = 2 then F 2 + nI 1 else F i) (29 + 17 * cT F + 3) = nI 1 := by
            dsimp only
            rw [if_neg (by omega), if_neg (by omega), if_neg (by omega), if_pos rfl]
          have f4 : ∀ i, 29 + 17 * cT F + 4 ≤ i → i < 29 + 17 * cT F + 17 → (fun i => if i = 29 + 17 * cT F then a else if i = 29 + 17 * cT F + 1 then z else if i = 29 + 17 * cT F + 2 then l else if i = 29 + 17 * cT F + 3 then nI 1 else if 29 + 17 * cT F + 4 ≤ i ∧ i < 29 + 17 * cT F + 17 then nI 0 else if i = 2 then F 2 + nI 1 else F i) i = nI 0 := fun i h1 h2 => by
            dsimp only
            rw [if_neg (by omega), if_neg (by omega), if_neg (by omega), if_neg (by omega), if_pos ⟨h1, h2⟩]
          generalize hG : (fun i => if i = 29 + 17 * cT F then a else if i = 29 + 17 * cT F + 1 then z else if i = 29 + 17 * cT F + 2 then l else if i = 29 + 17 * cT F + 3 then nI 1 else if 29 + 17 * cT F + 4 ≤ i ∧ i < 29 + 17 * cT F + 17 then nI 0 else if i = 2 then F 2 + nI 1 else F i) = F1 at *
          have fin : ∀ s', (∀ c j m, ownS c j ≠ 8 * w + cT F → s'.1 c j m = s.1 c j m) → s'.2 = s.2 → s'.1 1 (80 + (8 * w + cT F)) 0 = a → s'.1 1 (80 + (8 * w + cT F)) 1 = z → s'.1 6 (8 * w + cT F) 2 = l → s'.1 6 (8 * w + cT F) 3 = nI 1 → s'.1 6 (8 * w + cT F) 4 = nI 0 → (∀ m, m < 9 → s'.1 15 (8 * w + cT F) m = nI 0) → Q (some (.inl (nI (cT F)))) (putV s' 8 w 4 (nI (cT F + 1))) := by
            intro s' o1 o2 q0 q1 q2 q3 q4 q5
            have eS : cS F1 = cS F := by unfold cS; rw [hF 1 (by omega) (by omega)]
            have eR : cR F1 = cR F := by unfold cR; rw [hF 3 (by omega) (by omega)]
            have eT : cT F1 = cT F + 1 := by unfold cT at hF2 ⊢; rw [hF2]; exact nI_cl (by unfold cT at t2; omega)
            have o8 : ∀ m, s'.1 8 w m = s.1 8 w m := fun m => o1 8 w m (fun q => by have q : 999 = 8 * w + cT F := q; omega)
            refine h _ ⟨fun c i m hc => ?_, fun i j hi => ?_, fun g => permOk_of (fun i j => ?_) g⟩ ⟨?_, fun k hk => ?_, fun k hk => ?_, fun r hk => ?_⟩
            · rw [putV_ne (by
                by_cases e1 : c = 8
                · right; left; intro e2; subst e1; subst e2; exact hc rfl
                · exact Or.inl e1)]
              exact o1 c i m (fun q => hc (ownS_W q (by omega) h10))
            · show s'.2 i j = s.2 i j
              rw [o2]
            · show s'.2 i j = s.2 i j
              rw [o2]
            · refine ⟨?_, ?_, ?_, ?_, ?_⟩
              · rw [putV_ne (by omega), o8, hF 1 (by omega) (by omega)]; exact hR.s1
              · rw [putV_at, hF2]
              · rw [putV_ne (by omega), o8, hF 3 (by omega) (by omega)]; exact hR.r1
              · rw [putV_ne (by omega), o8, hF 0 (by omega) (by omega)]; exact hR.h1
              · rw [putV_ne (by omega), o8, hF 4 (by omega) (by omega)]; exact hR.l1
            · exact repServer_cg (fun j => (putV_ne (by omega)).trans (o1 _ _ _ (fun q => by have q : 999 = 8 * w + cT F := q; omega))) (fun j => (putV_ne (by omega)).trans (o1 _ _ _ (fun q => by have q : (if 8 * w + k < 80 then 999 else if 8 * w + k < 160 then 8 * w + k - 80 else 999) = 8 * w + cT F := q; rw [if_pos (by omega)] at q; omega))) (fun i a b => hF i (by omega) (by omega)) (hR.server (by omega))
            · by_cases e : k = cT F
              · subst e
                refine ⟨?_, ?_, ?_, ?_, ?_, fun j hj => ?_⟩
                · rw [putV_ne (by omega), q0, f0]
                · rw [putV_ne (by omega), q1, f1]
                · rw [putV_ne (by omega), q2, f2]
                · rw [putV_ne (by omega), q3, f3]
                · rw [putV_ne (by omega), q4, f4 _ (by omega) (by omega)]
                · rw [f4 _ (by omega) (by omega)]
                  refine ⟨fun q => absurd q nI01, fun _ => ?_⟩
                  rw [putV_ne (by omega), q5 _ (by omega)]
                  exact nI_0
              · exact repSite_cg (fun j => (putV_ne (by omega)).trans (o1 _ _ _ (fun q => by have q : 8 * w + k = 8 * w + cT F := q; omega))) (fun j => (putV_ne (by omega)).trans (o1 _ _ _ (fun q => by have q : (if 80 + (8 * w + k) < 80 then 999 else if 80 + (8 * w + k) < 160 then 80 + (8 * w + k) - 80 else 999) = 8 * w + cT F := q; rw [if_neg (by omega), if_pos (by omega)] at q; omega))) (fun j _ => (putV_ne (by omega)).trans (o1 _ _ _ (fun q => by have q : (if 8 * w + k < 80 then 8 * w + k else 999) = 8 * w + cT F := q; rw [if_pos (by omega)] at q; omega))) (fun i a b => hF i (by omega) (by omega)) (hR.site (by omega))
            · have m0 := mA_eq r 0
              have wr := hw.router (r := r) (by omega)
              have g := repRouter_s (s' := putV s' 8 w 4 (nI (cT F + 1))) wr hp (i := 4 * w + r) (by omega) ⟨fun c j m e => (putV_ne (by
                by_cases e1 : c = 8
                · subst e1; have e : 999 = 4 * w + r := e; omega
                · exact Or.inl e1)).trans (o1 c j m (fun q => by
                unfold ownR at e
                unfold ownS at q
                split at q
                · simp only at e; omega
                · simp only at e; split at e <;> split at q <;> (try split at q) <;> omega
                · simp only at e; split at e <;> split at q <;> omega
                · omega)), fun j => by show s'.2 _ j = _; rw [o2]⟩ (hR.router (by omega))
              exact repRouter_F wr (fun i a b => hF i (by omega) (by omega)) (fun i a b => hF i (by omega) (by omega)) (fun t ht => ⟨hF _ (by omega) (by omega), hF _ (by omega) (by omega)⟩) g
          clear h e0
          refine hX 1000 25 _ _ _ ?_
          repeat' (first | (intro hc) | (refine And.intro ?_ ?_) | (exact absurd nI_0 ‹cmpF 0 (nI 0) 0›) | (exact absurd ‹cmpT 0 (nI 1) 0› nI1_ne) | (exact absurd nI_0 ‹cmpT 1 (nI 0) 0›) | (exact absurd ‹cmpF 1 (nI 1) 0› nI1_ne) | (show wp _ _ _ _ _ _ _ _ _ _ _ _; conv => whnf) | (rw [e2]) | (simp (disch := omega) only [nI_cl]) | (simp (disch := omega) only [nI_add, nI_mul, setN_now, setN_put, nI_cl, Nat.add_zero]) | (refine hcall _ _ _ _ ?_; first | (refine c_siteStart (i := 8 * w + cT F) (by omega) (fun s1 o1 o2 q0 q1 q2 q3 q4 q5 => ?_)) | fail))
          all_goals (try ((try clear hX hcall); (try clear h); (try simp (disch := omega) only [cmpT, cmpF, bI_eq0, bI_ne0, Classical.not_not, nI_toI, nI_cl, nI_inj, nI_add, nI_mul, nI_subI, takeL, setL, Int32.toInt_zero, Nat.add_zero, setN_now, alen20, alen11, alen12, alen13, alen14, alen15, alen16, alen17, alen18, alen19, (id e2)] at *); omega))
          have e4 : s1.1 8 w 4 = nI (cT F) := (o1 8 w 4 (fun q => by have q : 999 = 8 * w + cT F := q; omega)).trans e2
          have hf := fin s1 o1 o2 q0 q1 q2 q3 q4 q5
          rw [e4, putV_at, nI_add, nI_sub (by omega) (by omega), Nat.add_sub_cancel]
          exact hf
    obtain ⟨hb1, hb2⟩ := hb
    intro call hcall X hX
    have loop := loop call hcall X hX
    clear h e0
    refine hX 1000 0 _ _ _ ?_
    repeat' (first | (intro hc) | (refine And.intro ?_ ?_) | (exact absurd nI_0 ‹cmpF 0 (nI 0) 0›) | (exact absurd ‹cmpT 0 (nI 1) 0› nI1_ne) | (exact absurd nI_0 ‹cmpT 1 (nI 0) 0›) | (exact absurd ‹cmpF 1 (nI 1) 0› nI1_ne) | (show wp _ _ _ _ _ _ _ _ _ _ _ _; conv => whnf) | (simp (disch := omega) only [nI_add, nI_mul, setN_now, setN_put, nI_cl, Nat.add_zero]) | (refine hcall _ _ _ _ ?_; first | (refine c_isBlock ?_) | fail))
    all_goals first
      | exact loop 0 (by omega) rfl
      | (exfalso; exact bF hb1 (by assumption))
      | (clear loop hb1; (try clear hX hcall); (try clear h); (try simp (disch := omega) only [cmpT, cmpF, bI_eq0, bI_ne0, Classical.not_not, nI_toI, nI_cl, nI_inj, nI_add, nI_mul, nI_subI, takeL, setL, Int32.toInt_zero, Nat.add_zero, Nat.zero_mul, Nat.zero_add, alen11, alen12, alen13, alen14, alen15, alen16, alen17, alen18, alen19] at *); omega)
  · have e : siteF F a z l = (-2, F) := by
      unfold siteF
      rw [if_pos hb]
    rw [e] at h
    have h := h s Upd.refl hR
    intro call hcall X hX; refine hX 1000 0 _ _ _ ?_
    repeat' (first | (intro hc) | (refine And.intro ?_ ?_) | (exact absurd nI_0 ‹cmpF 0 (nI 0) 0›) | (exact absurd ‹cmpT 0 (nI 1) 0› nI1_ne) | (exact absurd nI_0 ‹cmpT 1 (nI 0) 0›) | (exact absurd ‹cmpF 1 (nI 1) 0› nI1_ne) | (show wp _ _ _ _ _ _ _ _ _ _ _ _; conv => whnf) | (simp (disch := omega) only [nI_add, nI_mul, setN_now, setN_put, nI_cl, Nat.add_zero]) | (refine hcall _ _ _ _ ?_; first | (refine c_isBlock ?_) | fail))
    all_goals first
      | exact h
      | (exfalso; apply hb; refine ⟨bI_ne0.mp (by assumption), ?_⟩; clear h hb; (try clear hX hcall); (try clear h); (try simp (disch := omega) only [cmpT, cmpF, bI_eq0, bI_ne0, Classical.not_not, nI_toI, nI_cl, nI_inj, nI_add, nI_mul, nI_subI, takeL, setL, Int32.toInt_zero, Nat.add_zero, Nat.zero_mul, Nat.zero_add, alen11, alen12, alen13, alen14, alen15, alen16, alen17, alen18, alen19] at *); omega)
end CLS12
