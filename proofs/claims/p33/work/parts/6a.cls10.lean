/-! THE CLASS: slots set and emptied, new routers, servers, sites -/
section CLS10
variable {L : Nat} {xs : Nat → Int32} {f i k r p q c j n B b w w' m sd : Nat} {x y v a z l lo v0 v1 name flow place which : Int32} {s s' t : St} {F G F' u : Fm} {Q : Option MV → St → Prop} {P : Nat → Bool}
set_option maxHeartbeats 4000000 in
set_option maxRecDepth 100000 in
theorem RepW_router (hw : WF F B) (hp : permOk s) (h10 : w < 10) (hr : r < cR F) (hR : RepW s w F) (hs : ∀ c j m, ownR c j ≠ 4 * w + r → s'.1 c j m = s.1 c j m) (hs2 : ∀ i j, i ≠ 4 * w + r → s'.2 i j = s.2 i j) (hF : ∀ i, (i < 165 + 6 * r ∨ 165 + 6 * r + 6 ≤ i) → (i < mA r 0 ∨ mA r 5 ≤ i) → F' i = F i) (hn : repRouter s' (4 * w + r) F' r) : RepW s' w F' := by
  have s2 := hw.s2
  have t2 := hw.t2
  have r2 := hw.r2
  have m0 := mA_eq r 0
  have m5 := mA_eq r 5
  have lo : ∀ i, i < 165 → F' i = F i := fun i hi => hF i (by omega) (by omega)
  have e1 : cS F' = cS F := by unfold cS; rw [lo 1 (by omega)]
  have e2 : cT F' = cT F := by unfold cT; rw [lo 2 (by omega)]
  have e3 : cR F' = cR F := by unfold cR; rw [lo 3 (by omega)]
  have o8 : ∀ m, s'.1 8 w m = s.1 8 w m := fun m => hs 8 w m (fun q => by have q : 999 = 4 * w + r := q; omega)
  refine ⟨?_, fun k hk => ?_, fun k hk => ?_, fun r' hk => ?_⟩
  · rw [o8, o8, o8, o8, o8, lo 0 (by omega), lo 1 (by omega), lo 2 (by omega), lo 3 (by omega), lo 4 (by omega)]
    exact hR.1
  · exact repServer_cg (fun j => hs _ _ _ (fun q => by have q : 999 = 4 * w + r := q; omega)) (fun j => hs _ _ _ (fun q => by have q : (if 8 * w + k < 160 then 999 else (8 * w + k - 160) / 5) = 4 * w + r := q; rw [if_pos (by omega)] at q; omega)) (fun i a b => lo i (by omega)) (hR.server (by omega))
  · exact repSite_cg (fun j => hs _ _ _ (fun q => by have q : 999 = 4 * w + r := q; omega)) (fun j => hs _ _ _ (fun q => by have q : (if 80 + (8 * w + k) < 160 then 999 else (80 + (8 * w + k) - 160) / 5) = 4 * w + r := q; rw [if_pos (by omega)] at q; omega)) (fun j _ => hs _ _ _ (fun q => by have q : (if 8 * w + k < 80 then 999 else (8 * w + k - 80) / 5) = 4 * w + r := q; rw [if_pos (by omega)] at q; omega)) (fun i a b => lo i (by omega)) (hR.site (by omega))
  · by_cases e : r' = r
    · subst e; exact hn
    · have n0 := mA_eq r' 0
      have n5 := mA_eq r' 5
      have wr := hw.router (r := r') (by omega)
      have g := repRouter_s (s' := s') wr hp (i := 4 * w + r') (by omega) ⟨fun c j m e => hs c j m (by omega), fun j => hs2 _ _ (by omega)⟩ (hR.router (by omega))
      exact repRouter_F wr (fun i a b => hF i (by omega) (by omega)) (fun i a b => hF i (by omega) (by omega)) (fun t ht => ⟨lo _ (by omega), lo _ (by omega)⟩) g
set_option maxHeartbeats 4000000 in
set_option maxRecDepth 100000 in
theorem c_fill (hk : k < 3) (h : Q none (putV (putV (putV s 15 sd (k * 3) v) 15 sd (k * 3 + 1) a) 15 sd (k * 3 + 2) z)) : wpM L xs codT retT (f + 2) m_X7_fill [.inr (7, sd), .inl (nI k), .inl v, .inl a, .inl z] s Q := by
  have hk2 := iN_k hk (by omega)
  intro call hcall X hX; refine hX 1000 0 _ _ _ ?_
  repeat' (first | (intro hc) | (refine And.intro ?_ ?_) | (exact absurd nI_0 ‹cmpF 0 (nI 0) 0›) | (exact absurd ‹cmpT 0 (nI 1) 0› nI1_ne) | (exact absurd nI_0 ‹cmpT 1 (nI 0) 0›) | (exact absurd ‹cmpF 1 (nI 1) 0› nI1_ne) | (show wp _ _ _ _ _ _ _ _ _ _ _ _; conv => whnf) | (simp (disch := omega) only [nI_add, nI_mul, setN_now, setN_put, nI_cl, Nat.add_zero]) | (refine hcall _ _ _ _ ?_; first | (refine c_sSlot ?_) | fail))
  all_goals first
    | (exfalso; exact bF hk2 (by assumption))
    | exact h
    | (simp (disch := omega) only [nI_mul, nI_add, nI_cl, Nat.add_zero]; exact h)
    | (simp (disch := omega) only [nI_toI, nI_cl, nI_add, nI_mul, alen11, alen12, alen13, alen14, alen15, alen16, alen17, alen18, alen19]; omega)
set_option maxHeartbeats 4000000 in
set_option maxRecDepth 100000 in
theorem c_fillSlot (hw : WF F B) (hp : permOk s) (h10 : w < 10) (hR : RepW s w F) (h : ∀ s', Upd s s' w → RepW s' w (fillSF F v a z x y).2 → Q (some (.inl (fillSF F v a z x y).1)) s') : wpM L xs codT retT (f + 3) m_X8_fillSlot [.inr (8, w), .inl v, .inl a, .inl z, .inl x, .inl y] s Q := by
  have t2 := hw.t2
  have e2 : s.1 8 w 4 = nI (cT F) := hR.t1.trans hw.t1
  by_cases hv : iN v (cT F)
  · by_cases ha : iN a 3
    · obtain ⟨k, hp1, hk⟩ := iN_nn hv (by omega)
      obtain ⟨j, hp2, hj⟩ := iN_nn ha (by omega)
      subst hp1; subst hp2
      have en : nn (nI k) = k := nI_cl (by omega)
      have ej : nn (nI j) = j := nI_cl (by omega)
      obtain ⟨r0, r1, r2, r3, r4, rc⟩ := hR.site hk
      by_cases hz : iN z 32
      · by_cases hxy : iN x 10 ∧ 1 ≤ y.toInt ∧ y.toInt ≤ 9
        · have e : fillSF F (nI k) (nI j) z x y = (F (29 + 17 * k + 3) + nI 1, fun i => if i = 29 + 17 * k + 5 + 4 * j then nI 1 else if i = 29 + 17 * k + 5 + 4 * j + 1 then z else if i = 29 + 17 * k + 5 + 4 * j + 2 then x else if i = 29 + 17 * k + 5 + 4 * j + 3 then y else if i = 29 + 17 * k + 3 then F i + nI 1 else F i) := by
            unfold fillSF
            rw [if_neg (fun q => q ⟨hv, ha⟩), en, ej, if_neg (fun q => q ⟨hz, hxy⟩)]
          rw [e] at h
          dsimp only at h
          have h := h (putV (putV (putV (putV s 15 (8 * w + k) (j * 3) z) 15 (8 * w + k) (j * 3 + 1) x) 15 (8 * w + k) (j * 3 + 2) y) 6 (8 * w + k) 3 (F (29 + 17 * k + 3) + nI 1)) ((((Upd_put (own_15a h10 (by omega))).put (own_15a h10 (by omega))).put (own_15a h10 (by omega))).put (own_6 (by omega)))
          have h := h (RepW_site hw hp h10 hk hR (site_put (site_put (site_put (site_put site_0 (if_pos (by omega))) (if_pos (by omega))) (if_pos (by omega))) rfl) rfl (fun i hi => by
            (try dsimp only)
            rw [if_neg (by omega), if_neg (by omega), if_neg (by omega), if_neg (by omega), if_neg (by omega)]) ⟨by
            dsimp only
            simp (disch := omega) only [putV_ne, if_neg]
            exact r0, by
            dsimp only
            simp (disch := omega) only [putV_ne, if_neg]
            exact r1, by
            dsimp only
            simp (disch := omega) only [putV_ne, if_neg]
            exact r2, by
            dsimp only
            simp (disch := omega) only [putV_at, if_neg, if_true], by
            dsimp only
            simp (disch := omega) only [putV_ne, if_neg]
            exact r4, fun j' hj' => by
            dsimp only
            by_cases ejj : j' = j
            · subst ejj
              simp (disch := omega) only [putV_ne, putV_at, if_neg, if_true]
              exact ⟨fun _ => by simp, fun q => absurd q.symm nI01⟩
            · simp (disch := omega) only [putV_ne, if_neg]
              exact rc j' hj'⟩)
          intro call hcall X hX; refine hX 1000 0 _ _ _ ?_
          repeat' (first | (intro hc) | (refine And.intro ?_ ?_) | (exact absurd nI_0 ‹cmpF 0 (nI 0) 0›) | (exact absurd ‹cmpT 0 (nI 1) 0› nI1_ne) | (exact absurd nI_0 ‹cmpT 1 (nI 0) 0›) | (exact absurd ‹cmpF 1 (nI 1) 0› nI1_ne) | (show wp _ _ _ _ _ _ _ _ _ _ _ _; conv => whnf) | (simp (disch := omega) only [nI_cl, putV_ne, putV_at, r3]) | (simp (disch := omega) only [nI_add, nI_mul, setN_now, setN_put, nI_cl, Nat.add_zero]) | (refine hcall _ _ _ _ ?_; first | (refine c_isSite e2 t2 ?_) | (refine c_sSlot ?_) | (refine c_sPlace ?_) | (refine c_fill hj ?_) | fail))
          all_goals first
            | exact h
            | (exfalso; exact bF hv (by assumption))
            | (exfalso; exact bF ha (by assumption))
            | (exfalso; exact bF hz (by assumption))
            | (simp (disch := omega) only [nI_cl, putV_ne, putV_at, r3]; exact h)
            | (simp (disch := omega) only [nI_toI, nI_cl, nI_add, nI_mul, alen11, alen12, alen13, alen14, alen15, alen16, alen17, alen18, alen19]; omega)
            | (exfalso; clear h e hv ha; (try clear hX hcall); (try clear h); (try simp (disch := omega) only [cmpT, cmpF, bI_eq0, bI_ne0, Classical.not_not, nI_toI, nI_cl, nI_inj, nI_add, nI_mul, nI_subI, takeL, setL, Int32.toInt_zero, Nat.add_zero, Nat.zero_mul, Nat.zero_add, alen11, alen12, alen13, alen14, alen15, alen16, alen17, alen18, alen19] at *); omega)
        · have e : fillSF F (nI k) (nI j) z x y = (-2, F) := by
            unfold fillSF
            rw [if_neg (fun q => q ⟨hv, ha⟩), if_pos (fun q => hxy q.2)]
          rw [e] at h
          have h := h s Upd.refl hR
          intro call hcall X hX; refine hX 1000 0 _ _ _ ?_
          repeat' (first | (intro hc) | (refine And.intro ?_ ?_) | (exact absurd nI_0 ‹cmpF 0 (nI 0) 0›) | (exact absurd ‹cmpT 0 (nI 1) 0› nI1_ne) | (exact absurd nI_0 ‹cmpT 1 (nI 0) 0›) | (exact absurd ‹cmpF 1 (nI 1) 0› nI1_ne) | (show wp _ _ _ _ _ _ _ _ _ _ _ _; conv => whnf) | (simp (disch := omega) only [nI_add, nI_mul, setN_now, setN_put, nI_cl, Nat.add_zero]) | (refine hcall _ _ _ _ ?_; first | (refine c_isSite e2 t2 ?_) | (refine c_sSlot ?_) | (refine c_sPlace ?_) | fail))
          all_goals first
            | exact h
            | (exfalso; exact bF hv (by assumption))
            | (exfalso; exact bF ha (by assumption))
            | (exfalso; exact bF hz (by assumption))
            | (exfalso; clear h e hv ha hz; (try clear hX hcall); (try clear h); (try simp (disch := omega) only [cmpT, cmpF, bI_eq0, bI_ne0, Classical.not_not, nI_toI, nI_cl, nI_inj, nI_add, nI_mul, nI_subI, takeL, setL, Int32.toInt_zero, Nat.add_zero, Nat.zero_mul, Nat.zero_add, alen11, alen12, alen13, alen14, alen15, alen16, alen17, alen18, alen19] at *); omega)
      · have e : fillSF F (nI k) (nI j) z x y = (-2, F) := by
          unfold fillSF
          rw [if_neg (fun q => q ⟨hv, ha⟩), if_pos (fun q => hz q.1)]
        rw [e] at h
        have h := h s Upd.refl hR
        intro call hcall X hX; refine hX 1000 0 _ _ _ ?_
        repeat' (first | (intro hc) | (refine And.intro ?_ ?_) | (exact absurd nI_0 ‹cmpF 0 (nI 0) 0›) | (exact absurd ‹cmpT 0 (nI 1) 0› nI1_ne) | (exact absurd nI_0 ‹cmpT 1 (nI 0) 0›) | (exact absurd ‹cmpF 1 (nI 1) 0› nI1_ne) | (show wp _ _ _ _ _ _ _ _ _ _ _ _; conv => whnf) | (simp (disch := omega) only [nI_add, nI_mul, setN_now, setN_put, nI_cl, Nat.add_zero]) | (refine hcall _ _ _ _ ?_; first | (refine c_isSite e2 t2 ?_) | (refine c_sSlot ?_) | (refine c_sPlace ?_) | fail))
        all_goals first
          | exact h
          | (exfalso; exact bF hv (by assumption))
          | (exfalso; exact bF ha (by assumption))
          | (exfalso; exact bT hz (by assumption))
    · have e : fillSF F v a z x y = (-1, F) := by
        unfold fillSF
        rw [if_pos (fun q => ha q.2)]
      rw [e] at h
      have h := h s Upd.refl hR
      intro call hcall X hX; refine hX 1000 0 _ _ _ ?_
      repeat' (first | (intro hc) | (refine And.intro ?_ ?_) | (exact absurd nI_0 ‹cmpF 0 (nI 0) 0›) | (exact absurd ‹cmpT 0 (nI 1) 0› nI1_ne) | (exact absurd nI_0 ‹cmpT 1 (nI 0) 0›) | (exact absurd ‹cmpF 1 (nI 1) 0› nI1_ne) | (show wp _ _ _ _ _ _ _ _ _ _ _ _; conv => whnf) | (simp (disch := omega) only [nI_add, nI_mul, setN_now, setN_put, nI_cl, Nat.add_zero]) | (refine hcall _ _ _ _ ?_; first | (refine c_isSite e2 t2 ?_) | (refine c_sSlot ?_) | fail))
      all_goals first
        | exact h
        | (exfalso; exact bF hv (by assumption))
        | (exfalso; exact bT ha (by assumption))
  · have e : fillSF F v a z x y = (-1, F) := by
      unfold fillSF
      rw [if_pos (fun q => hv q.1)]
    rw [e] at h
    have h := h s Upd.refl hR
    intro call hcall X hX; refine hX 1000 0 _ _ _ ?_
    repeat' (first | (intro hc) | (refine And.intro ?_ ?_) | (exact absurd nI_0 ‹cmpF 0 (nI 0) 0›) | (exact absurd ‹cmpT 0 (nI 1) 0› nI1_ne) | (exact absurd nI_0 ‹cmpT 1 (nI 0) 0›) | (exact absurd ‹cmpF 1 (nI 1) 0› nI1_ne) | (show wp _ _ _ _ _ _ _ _ _ _ _ _; conv => whnf) | (simp (disch := omega) only [nI_add, nI_mul, setN_now, setN_put, nI_cl, Nat.add_zero]) | (refine hcall _ _ _ _ ?_; first | (refine c_isSite e2 t2 ?_) | fail))
    all_goals first
      | exact h
      | (exfalso; exact bT hv (by assumption))
set_option maxHeartbeats 4000000 in
set_option maxRecDepth 100000 in
theorem c_vacateSlot (hw : WF F B) (hp : permOk s) (h10 : w < 10) (hR : RepW s w F) (h : ∀ s', Upd s s' w → RepW s' w (vacF F v a).2 → Q (some (.inl (vacF F v a).1)) s') : wpM L xs codT retT (f + 3) m_X8_vacateSlot [.inr (8, w), .inl v, .inl a] s Q := by
  have t2 := hw.t2
  have e2 : s.1 8 w 4 = nI (cT F) := hR.t1.trans hw.t1
  by_cases hv : iN v (cT F)
  · by_cases ha : iN a 3
    · obtain ⟨k, hp1, hk⟩ := iN_nn hv (by omega)
      obtain ⟨j, hp2, hj⟩ := iN_nn ha (by omega)
      subst hp1; subst hp2
      have en : nn (nI k) = k := nI_cl (by omega)
      have ej : nn (nI j) = j := nI_cl (by omega)
      obtain ⟨r0, r1, r2, r3, r4, rc⟩ := hR.site hk
      by_cases hz : F (29 + 17 * k + 5 + 4 * j) = nI 0
      · have e : vacF F (nI k) (nI j) = (-3, F) := by
          unfold vacF
          rw [if_neg (fun q => q ⟨hv, ha⟩), en, ej, if_pos hz]
        rw [e] at h
        have h := h s Upd.refl hR
        intro call hcall X hX; refine hX 1000 0 _ _ _ ?_
        repeat' (first | (intro hc) | (refine And.intro ?_ ?_) | (exact absurd nI_0 ‹cmpF 0 (nI 0) 0›) | (exact absurd ‹cmpT 0 (nI 1) 0› nI1_ne) | (exact absurd nI_0 ‹cmpT 1 (nI 0) 0›) | (exact absurd ‹cmpF 1 (nI 1) 0› nI1_ne) | (show wp _ _ _ _ _ _ _ _ _ _ _ _; conv => whnf) | (simp (disch := omega) only [nI_cl]) | (simp (disch := omega) only [nI_add, nI_mul, setN_now, setN_put, nI_cl, Nat.add_zero]) | (refine hcall _ _ _ _ ?_; first | (refine c_isSite e2 t2 ?_) | (refine c_sSlot ?_) | (refine c_isEmpty rc (hw.flag hk) hj ?_) | fail))
        all_goals first
          | exact h
          | (exfalso; exact bF hv (by assumption))
          | (exfalso; exact bF ha (by assumption))
          | (exfalso; exact bF hz (by assumption))
          | (simp (disch := omega) only [nI_toI, nI_cl, nI_add, nI_mul, alen11, alen12, alen13, alen14, alen15, alen16, alen17, alen18, alen19]; omega)
      · have e : vacF F (nI k) (nI j) = (F (29 + 17 * k + 3) + nI 1, fun i => if i = 29 + 17 * k + 5 + 4 * j then nI 0 else if i = 29 + 17 * k + 3 then F i + nI 1 else F i) := by
          unfold vacF
          rw [if_neg (fun q => q ⟨hv, ha⟩), en, ej, if_neg hz]
        rw [e] at h
        dsimp only at h
        have h := h (putV (putV (putV (putV s 15 (8 * w + k) (j * 3) (nI 0)) 15 (8 * w + k) (j * 3 + 1) (nI 0)) 15 (8 * w + k) (j * 3 + 2) (nI 0)) 6 (8 * w + k) 3 (F (29 + 17 * k + 3) + nI 1)) ((((Upd_put (own_15a h10 (by omega))).put (own_15a h10 (by omega))).put (own_15a h10 (by omega))).put (own_6 (by omega)))
        have h := h (RepW_site hw hp h10 hk hR (site_put (site_put (site_put (site_put site_0 (if_pos (by omega))) (if_pos (by omega))) (if_pos (by omega))) rfl) rfl (fun i hi => by
          (try dsimp only)
          rw [if_neg (by omega), if_neg (by omega)]) ⟨by
          dsimp only
          simp (disch := omega) only [putV_ne, if_neg]
          exact r0, by
          dsimp only
          simp (disch := omega) only [putV_ne, if_neg]
          exact r1, by
          dsimp only
          simp (disch := omega) only [putV_ne, if_neg]
          exact r2, by
          dsimp only
          simp (disch := omega) only [putV_at, if_neg, if_true], by
          dsimp only
          simp (disch := omega) only [putV_ne, if_neg]
          exact r4, fun j' hj' => by
          dsimp only
          by_cases ejj : j' = j
          · subst ejj
            simp (disch := omega) only [putV_ne, putV_at, if_neg, if_true]
            exact ⟨fun q => absurd q nI01, fun _ => nI_0⟩
          · simp (disch := omega) only [putV_ne, if_neg]
            exact rc j' hj'⟩)
        intro call hcall X hX; refine hX 1000 0 _ _ _ ?_
        repeat' (first | (intro hc) | (refine And.intro ?_ ?_) | (exact absurd nI_0 ‹cmpF 0 (nI 0) 0›) | (exact absurd ‹cmpT 0 (nI 1) 0› nI1_ne) | (exact absurd nI_0 ‹cmpT 1 (nI 0) 0›) | (exact absurd ‹cmpF 1 (nI 1) 0› nI1_ne) | (show wp _ _ _ _ _ _ _ _ _ _ _ _; conv => whnf) | (simp (disch := omega) only [nI_cl, putV_ne, putV_at, r3]) | (simp (disch := omega) only [nI_add, nI_mul, setN_now, setN_put, nI_cl, Nat.add_zero]) | (refine hcall _ _ _ _ ?_; first | (refine c_isSite e2 t2 ?_) | (refine c_sSlot ?_) | (refine c_isEmpty rc (hw.flag hk) hj ?_) | (refine c_fill hj ?_) | fail))
        all_goals first
          | exact h
          | (exfalso; exact bF hv (by assumption))
          | (exfalso; exact bF ha (by assumption))
          | (exfalso; exact bT hz (by assumption))
          | (simp (disch := omega) only [nI_cl, putV_ne, putV_at, r3]; exact h)
          | (simp (disch := omega) only [nI_toI, nI_cl, nI_add, nI_mul, alen11, alen12, alen13, alen14, alen15, alen16, alen17, alen18, alen19]; omega)
    · have e : vacF F v a = (-1, F) := by
        unfold vacF
        rw [if_pos (fun q => ha q.2)]
      rw [e] at h
      have h := h s Upd.refl hR
      intro call hcall X hX; refine hX 1000 0 _ _ _ ?_
      repeat' (first | (intro hc) | (refine And.intro ?_ ?_) | (exact absurd nI_0 ‹cmpF 0 (nI 0) 0›) | (exact absurd ‹cmpT 0 (nI 1) 0› nI1_ne) | (exact absurd nI_0 ‹cmpT 1 (nI 0) 0›) | (exact absurd ‹cmpF 1 (nI 1) 0› nI1_ne) | (show wp _ _ _ _ _ _ _ _ _ _ _ _; conv => whnf) | (simp (disch := omega) only [nI_add, nI_mul, setN_now, setN_put, nI_cl, Nat.add_zero]) | (refine hcall _ _ _ _ ?_; first | (refine c_isSite e2 t2 ?_) | (refine c_sSlot ?_) | fail))
      all_goals first
        | exact h
        | (exfalso; exact bF hv (by assumption))
        | (exfalso; exact bT ha (by assumption))
  · have e : vacF F v a = (-1, F) := by
      unfold vacF
      rw [if_pos (fun q => hv q.1)]
    rw [e] at h
    have h := h s Upd.refl hR
    intro call hcall X hX; refine hX 1000 0 _ _ _ ?_
    repeat' (first | (intro hc) | (refine And.intro ?_ ?_) | (exact absurd nI_0 ‹cmpF 0 (nI 0) 0›) | (exact absurd ‹cmpT 0 (nI 1) 0› nI1_ne) | (exact absurd nI_0 ‹cmpT 1 (nI 0) 0›) | (exact absurd ‹cmpF 1 (nI 1) 0› nI1_ne) | (show wp _ _ _ _ _ _ _ _ _ _ _ _; conv => whnf) | (simp (disch := omega) only [nI_add, nI_mul, setN_now, setN_put, nI_cl, Nat.add_zero]) | (refine hcall _ _ _ _ ?_; first | (refine c_isSite e2 t2 ?_) | fail))
    all_goals first
      | exact h
      | (exfalso; exact bT hv (by assumption))
set_option maxHeartbeats 4000000 in
set_option maxRecDepth 100000 in
theorem c_emptyCache (hw : WF F B) (hp : permOk s) (h10 : w < 10) (hR : RepW s w F) (h : ∀ s', Upd s s' w → RepW s' w (forgetF F v).2 → Q (some (.inl (forgetF F v).1)) s') : wpM L xs codT retT (f + 2) m_X8_emptyCache [.inr (8, w), .inl v] s Q := by
  have r2 := hw.r2
  have e3 : s.1 8 w 5 = nI (cR F) := hR.r1.trans hw.r1
  by_cases hv : iN v (cR F)
  · obtain ⟨k, hp1, hk⟩ := iN_nn hv (by omega)
    subst hp1
    have en : nn (nI k) = k := nI_cl (by omega)
    have rr := hR.router hk
    have r1 := rr.1
    have e : forgetF F (nI k) = (F (165 + 6 * k), putF F (165 + 6 * k) (nI 0)) := by
      unfold forgetF
      rw [if_neg (fun q => q hv), en]
    rw [e] at h
    dsimp only at h
    have m0 := mA_eq k 0
    have h := h (putV s 4 (4 * w + k) 1 (nI 0)) (Upd_put (own_4 (by omega))) (RepW_router hw hp h10 hk hR (fun c j m e => putV_ne (by
      by_cases e1 : c = 4
      · right; left; intro e2; subst e1; subst e2; exact e rfl
      · exact Or.inl e1)) (fun _ _ _ => rfl) (fun i h1 h2 => putF_ne _ _ (by omega)) ⟨by rw [putV_at, putF_at], by
        rw [putV_ne (by omega), putF_ne _ _ (by omega)]; exact rr.2.1, by
        rw [putV_ne (by omega), putF_ne _ _ (by omega)]; exact rr.2.2.1, by
        rw [putV_ne (by omega), putF_ne _ _ (by omega)]; exact rr.2.2.2.1, by
        rw [putV_ne (by omega), putF_ne _ _ (by omega)]; exact rr.2.2.2.2.1, by
        rw [putV_ne (by omega), putF_ne _ _ (by omega)]; exact rr.2.2.2.2.2.1, fun p hp' => by
        have e0 : cM (putF F (165 + 6 * k) (nI 0)) k = 0 := by unfold cM; rw [putF_at]; exact nI_cl (by omega)
        omega⟩)
    rw [← r1] at h
    intro call hcall X hX; refine hX 1000 0 _ _ _ ?_
    repeat' (first | (intro hc) | (refine And.intro ?_ ?_) | (exact absurd nI_0 ‹cmpF 0 (nI 0) 0›) | (exact absurd ‹cmpT 0 (nI 1) 0› nI1_ne) | (exact absurd nI_0 ‹cmpT 1 (nI 0) 0›) | (exact absurd ‹cmpF 1 (nI 1) 0› nI1_ne) | (show wp _ _ _ _ _ _ _ _ _ _ _ _; conv => whnf) | (simp (disch := omega) only [nI_cl]) | (simp (disch := omega) only [nI_add, nI_mul, setN_now, setN_put, nI_cl, Nat.add_zero]) | (refine hcall _ _ _ _ ?_; first | (refine c_isRouter e3 r2 ?_) | fail))
    all_goals first
      | exact h
      | (exfalso; exact bF hv (by assumption))
      | (simp (disch := omega) only [nI_cl]; exact h)
      | (simp (disch := omega) only [nI_toI, nI_cl, nI_add, nI_mul, alen11, alen12, alen13, alen14, alen15, alen16, alen17, alen18, alen19]; omega)
  · have e : forgetF F v = (-1, F) := by
      unfold forgetF
      rw [if_pos hv]
    rw [e] at h
    have h := h s Upd.refl hR
    intro call hcall X hX; refine hX 1000 0 _ _ _ ?_
    repeat' (first | (intro hc) | (refine And.intro ?_ ?_) | (exact absurd nI_0 ‹cmpF 0 (nI 0) 0›) | (exact absurd ‹cmpT 0 (nI 1) 0› nI1_ne) | (exact absurd nI_0 ‹cmpT 1 (nI 0) 0›) | (exact absurd ‹cmpF 1 (nI 1) 0› nI1_ne) | (show wp _ _ _ _ _ _ _ _ _ _ _ _; conv => whnf) | (simp (disch := omega) only [nI_add, nI_mul, setN_now, setN_put, nI_cl, Nat.add_zero]) | (refine hcall _ _ _ _ ?_; first | (refine c_isRouter e3 r2 ?_) | fail))
    all_goals first
      | exact h
      | (exfalso; exact bT hv (by assumption))
end CLS10
