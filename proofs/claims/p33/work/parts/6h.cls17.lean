/-! THE CLASS: asking -/
section CLS17
variable {L : Nat} {xs : Nat → Int32} {f i k r p q c j n B b w w' m sd : Nat} {x y v a z l lo v0 v1 name flow place which : Int32} {s s' s2 s3 t : St} {F G C F' u : Fm} {Q : Option MV → St → Prop} {P : Nat → Nat}
set_option maxHeartbeats 4000000 in
set_option maxRecDepth 100000 in
theorem c_addMap (hw : WF F B) (h10 : w < 10) (hp : permOk s) (hR : RepW s w F) (hr : r < cR F) (hk : k < cT F) (h : ∀ s', (∀ c j m, ownR c j ≠ 4 * w + r → s'.1 c j m = s.1 c j m) → (∀ i j, i ≠ 4 * w + r → s'.2 i j = s.2 i j) → permOk s' → repRouter s' (4 * w + r) (newF F r k) r → Q none s') : wpM L xs codT retT (f + 3) m_X4_addMap [.inr (4, 4 * w + r), .inl (nI k), .inr (6, 8 * w + k), .inl (F 0 + F 4)] s Q := by
  have r2 := hw.r2
  have t2 := hw.t2
  have rr := hR.router hr
  have wr := hw.router hr
  have w5 := wr.2.1
  have i40 : 4 * w + r < 40 := by omega
  obtain ⟨g1, g2, g3, g4⟩ := cut_ok (k := k) hw hr
  have gR : r < cR (cutF F r k) := by unfold cR; rw [g3 3 (by omega)]; exact hr
  have wC := g1.router gR
  cases ho : firN (copP F r (nI k)) (cM F r) 0 with
  | none =>
    have e1 : s.1 4 (4 * w + r) 1 = nI (cM F r) := rr.1.trans wr.1
    have hcu := cut_none ho
    by_cases h5 : cM F r = 5
    · rw [if_pos h5] at hcu
      have h45 : 4 < cM F r := by omega
      intro call hcall X hX; refine hX 1000 0 _ _ _ ?_
      repeat' (first | (intro hc) | (refine And.intro ?_ ?_) | (exact absurd nI_0 ‹cmpF 0 (nI 0) 0›) | (exact absurd ‹cmpT 0 (nI 1) 0› nI1_ne) | (exact absurd nI_0 ‹cmpT 1 (nI 0) 0›) | (exact absurd ‹cmpF 1 (nI 1) 0› nI1_ne) | (show wp _ _ _ _ _ _ _ _ _ _ _ _; conv => whnf) | (simp (disch := omega) only [nI_add, nI_mul, setN_now, setN_put, nI_cl, Nat.add_zero]) | (refine hcall _ _ _ _ ?_; first | (refine c_placeOfSiteE wr rr i40 ho ?_) | (refine c_dropNo e1 w5 m1_no ?_) | (refine c_dropR wr (by omega) t2 i40 hp rr h45 (fun s2 u2 p2 q2 => ?_)) | fail))
      all_goals (try (exfalso; clear h wC g1 g2 g3 g4 gR hcu; (try clear hX hcall); (try clear h); (try simp (disch := omega) only [cmpT, cmpF, bI_eq0, bI_ne0, Classical.not_not, nI_toI, nI_cl, nI_inj, nI_add, nI_mul, nI_subI, takeL, setL, Int32.toInt_zero, Nat.add_zero, setN_now, alen20, alen11, alen12, alen13, alen14, alen15, alen16, alen17, alen18, alen19, (id e1)] at *); omega))
      all_goals (rw [← hcu] at q2)
      all_goals (have e2 : s2.1 4 (4 * w + r) 1 = nI (cM (cutF F r k) r) := q2.1.trans wC.1)
      all_goals (try (rw [e2]; (simp (disch := omega) only [nI_toI, nI_cl, nI_add, nI_mul, alen11, alen12, alen13, alen14, alen15, alen16, alen17, alen18, alen19]; omega)))
      repeat' (first | (intro hc) | (refine And.intro ?_ ?_) | (exact absurd nI_0 ‹cmpF 0 (nI 0) 0›) | (exact absurd ‹cmpT 0 (nI 1) 0› nI1_ne) | (exact absurd nI_0 ‹cmpT 1 (nI 0) 0›) | (exact absurd ‹cmpF 1 (nI 1) 0› nI1_ne) | (show wp _ _ _ _ _ _ _ _ _ _ _ _; conv => whnf) | (rw [e2]) | (simp (disch := omega) only [nI_cl]) | (simp (disch := omega) only [nI_add, nI_mul, setN_now, setN_put, nI_cl, Nat.add_zero]) | (refine hcall _ _ _ _ ?_; first | (refine c_mapBecome (by omega) (fun s3 o1 o2 b0 b1 b15 m2 m3 m4 m5 => ?_)) | fail))
      all_goals (try (simp (disch := omega) only [nI_toI, nI_cl, nI_add, nI_mul, alen11, alen12, alen13, alen14, alen15, alen16, alen17, alen18, alen19]; omega))
      have e3 : s3.1 4 (4 * w + r) 1 = nI (cM (cutF F r k) r) := (o1 4 _ 1 (by omega) (by omega) (by omega)).trans e2
      obtain ⟨z1, z2, z3, z4⟩ := rep_new hw hr hk h10 hR u2 p2 q2 o1 o2 b0 b1 b15 m2 m3 m4 m5
      have hf := h _ z1 z2 z3 z4
      rw [e3, putV_at, nI_add, nI_sub (by omega) (by omega), Nat.add_sub_cancel]
      refine hcall _ _ _ _ ?_
      refine c_front (n := cM (cutF F r k) r + 1) (putV_at) (by omega) (by omega) ?_
      exact hf
    · rw [if_neg h5] at hcu
      have q2 : repRouter s (4 * w + r) (cutF F r k) r := by rw [hcu]; exact rr
      have e2 : s.1 4 (4 * w + r) 1 = nI (cM (cutF F r k) r) := q2.1.trans wC.1
      intro call hcall X hX; refine hX 1000 0 _ _ _ ?_
      repeat' (first | (intro hc) | (refine And.intro ?_ ?_) | (exact absurd nI_0 ‹cmpF 0 (nI 0) 0›) | (exact absurd ‹cmpT 0 (nI 1) 0› nI1_ne) | (exact absurd nI_0 ‹cmpT 1 (nI 0) 0›) | (exact absurd ‹cmpF 1 (nI 1) 0› nI1_ne) | (show wp _ _ _ _ _ _ _ _ _ _ _ _; conv => whnf) | (rw [e2]) | (simp (disch := omega) only [nI_cl]) | (simp (disch := omega) only [nI_add, nI_mul, setN_now, setN_put, nI_cl, Nat.add_zero]) | (refine hcall _ _ _ _ ?_; first | (refine c_placeOfSiteE wr rr i40 ho ?_) | (refine c_dropNo e1 w5 m1_no ?_) | (refine c_mapBecome (by omega) (fun s3 o1 o2 b0 b1 b15 m2 m3 m4 m5 => ?_)) | fail))
      all_goals (try (simp (disch := omega) only [nI_toI, nI_cl, nI_add, nI_mul, alen11, alen12, alen13, alen14, alen15, alen16, alen17, alen18, alen19]; omega))
      all_goals (try (exfalso; clear h wC g1 g3 g4 gR hcu q2 e2; (try clear hX hcall); (try clear h); (try simp (disch := omega) only [cmpT, cmpF, bI_eq0, bI_ne0, Classical.not_not, nI_toI, nI_cl, nI_inj, nI_add, nI_mul, nI_subI, takeL, setL, Int32.toInt_zero, Nat.add_zero, setN_now, alen20, alen11, alen12, alen13, alen14, alen15, alen16, alen17, alen18, alen19, (id e1)] at *); omega))
      have e3 : s3.1 4 (4 * w + r) 1 = nI (cM (cutF F r k) r) := (o1 4 _ 1 (by omega) (by omega) (by omega)).trans e2
      obtain ⟨z1, z2, z3, z4⟩ := rep_new hw hr hk h10 hR Rupd.refl hp q2 o1 o2 b0 b1 b15 m2 m3 m4 m5
      have hf := h _ z1 z2 z3 z4
      rw [e3, putV_at, nI_add, nI_sub (by omega) (by omega), Nat.add_sub_cancel]
      refine hcall _ _ _ _ ?_
      refine c_front (n := cM (cutF F r k) r + 1) (putV_at) (by omega) (by omega) ?_
      exact hf
  | some p =>
    obtain ⟨hcu, hpl⟩ := cut_some wr (by omega) ho
    have d := drops_c (p := p) wr (by omega)
    intro call hcall X hX; refine hX 1000 0 _ _ _ ?_
    repeat' (first | (intro hc) | (refine And.intro ?_ ?_) | (exact absurd nI_0 ‹cmpF 0 (nI 0) 0›) | (exact absurd ‹cmpT 0 (nI 1) 0› nI1_ne) | (exact absurd nI_0 ‹cmpT 1 (nI 0) 0›) | (exact absurd ‹cmpF 1 (nI 1) 0› nI1_ne) | (show wp _ _ _ _ _ _ _ _ _ _ _ _; conv => whnf) | (simp (disch := omega) only [nI_add, nI_mul, setN_now, setN_put, nI_cl, Nat.add_zero]) | (refine hcall _ _ _ _ ?_; first | (refine c_placeOfSiteE wr rr i40 ho ?_) | (refine c_dropR wr (by omega) t2 i40 hp rr hpl (fun s2 u2 p2 q2 => ?_)) | fail))
    all_goals (rw [← hcu] at q2)
    all_goals (have e2 : s2.1 4 (4 * w + r) 1 = nI (cM (cutF F r k) r) := q2.1.trans wC.1)
    all_goals (try (exfalso; clear h wC g1 g3 g4 gR hcu q2; (try clear hX hcall); (try clear h); (try simp (disch := omega) only [cmpT, cmpF, bI_eq0, bI_ne0, Classical.not_not, nI_toI, nI_cl, nI_inj, nI_add, nI_mul, nI_subI, takeL, setL, Int32.toInt_zero, Nat.add_zero, setN_now, alen20, alen11, alen12, alen13, alen14, alen15, alen16, alen17, alen18, alen19, (id e2)] at *); omega))
    all_goals (try (rw [e2]; (simp (disch := omega) only [nI_toI, nI_cl, nI_add, nI_mul, alen11, alen12, alen13, alen14, alen15, alen16, alen17, alen18, alen19]; omega)))
    repeat' (first | (intro hc) | (refine And.intro ?_ ?_) | (exact absurd nI_0 ‹cmpF 0 (nI 0) 0›) | (exact absurd ‹cmpT 0 (nI 1) 0› nI1_ne) | (exact absurd nI_0 ‹cmpT 1 (nI 0) 0›) | (exact absurd ‹cmpF 1 (nI 1) 0› nI1_ne) | (show wp _ _ _ _ _ _ _ _ _ _ _ _; conv => whnf) | (rw [e2]) | (simp (disch := omega) only [nI_cl]) | (simp (disch := omega) only [nI_add, nI_mul, setN_now, setN_put, nI_cl, Nat.add_zero]) | (refine hcall _ _ _ _ ?_; first | (refine c_mapBecome (by omega) (fun s3 o1 o2 b0 b1 b15 m2 m3 m4 m5 => ?_)) | fail))
    all_goals (try (simp (disch := omega) only [nI_toI, nI_cl, nI_add, nI_mul, alen11, alen12, alen13, alen14, alen15, alen16, alen17, alen18, alen19]; omega))
    all_goals (try (exfalso; clear h wC g1 g3 g4 gR hcu q2; (try clear hX hcall); (try clear h); (try simp (disch := omega) only [cmpT, cmpF, bI_eq0, bI_ne0, Classical.not_not, nI_toI, nI_cl, nI_inj, nI_add, nI_mul, nI_subI, takeL, setL, Int32.toInt_zero, Nat.add_zero, setN_now, alen20, alen11, alen12, alen13, alen14, alen15, alen16, alen17, alen18, alen19, (id e2)] at *); omega))
    have e3 : s3.1 4 (4 * w + r) 1 = nI (cM (cutF F r k) r) := (o1 4 _ 1 (by omega) (by omega) (by omega)).trans e2
    obtain ⟨z1, z2, z3, z4⟩ := rep_new hw hr hk h10 hR u2 p2 q2 o1 o2 b0 b1 b15 m2 m3 m4 m5
    have hf := h _ z1 z2 z3 z4
    rw [e3, putV_at, nI_add, nI_sub (by omega) (by omega), Nat.add_sub_cancel]
    refine hcall _ _ _ _ ?_
    refine c_front (n := cM (cutF F r k) r + 1) (putV_at) (by omega) (by omega) ?_
    exact hf
set_option maxHeartbeats 4000000 in
set_option maxRecDepth 100000 in
theorem RepW_cnt (hw : WF F B) (hp : permOk s) (h10 : w < 10) (hr : r < cR F) (hR : RepW s w F) (hk : k < 6) (h0 : 0 < k) : RepW (putV s 4 (4 * w + r) (k + 1) x) w (putF F (165 + 6 * r + k) x) := by
  have r2 := hw.r2
  have m0 := mA_eq r 0
  have rr := hR.router hr
  have wr := hw.router hr
  have w5 := wr.2.1
  have eF : ∀ i, i ≠ 165 + 6 * r + k → putF F (165 + 6 * r + k) x i = F i := fun i hi => putF_ne _ _ hi
  refine RepW_router hw hp h10 hr hR (fun c j m e => putV_ne (by
    by_cases e1 : c = 4
    · right; left; intro e2; subst e1; subst e2; exact e rfl
    · exact Or.inl e1)) (fun _ _ _ => rfl) (fun i h1 h2 => eF i (by omega)) ?_
  have g := repRouter_F (F' := putF F (165 + 6 * r + k) x) (s := s) (i := 4 * w + r) (F := F) (r := r)
  have ec : cM (putF F (165 + 6 * r + k) x) r = cM F r := by unfold cM; rw [eF _ (by omega)]
  have one : ∀ j, j < 6 → (putV s 4 (4 * w + r) (k + 1) x).1 4 (4 * w + r) (j + 1) = putF F (165 + 6 * r + k) x (165 + 6 * r + j) := by
    intro j hj
    by_cases e : j = k
    · subst e; rw [putV_at, putF_at]
    · rw [putV_ne (by omega), eF _ (by omega)]
      have hj6 : j = 0 ∨ j = 1 ∨ j = 2 ∨ j = 3 ∨ j = 4 ∨ j = 5 := by omega
      rcases hj6 with t | t | t | t | t | t <;> subst t
      · exact rr.1
      · exact rr.2.1
      · exact rr.2.2.1
      · exact rr.2.2.2.1
      · exact rr.2.2.2.2.1
      · exact rr.2.2.2.2.2.1
  refine ⟨one 0 (by omega), one 1 (by omega), one 2 (by omega), one 3 (by omega), one 4 (by omega), one 5 (by omega), fun p hp' => ?_⟩
  rw [ec] at hp'
  exact repMap_t (s := s) (fun c j k hc => putV_ne (Or.inl hc)) (repMap_F (wr.2.2.1 p hp').2.1 (fun j hj => eF _ (by have := mA_eq r p; omega)) (fun t ht => ⟨eF _ (by have := hw.t2; omega), eF _ (by have := hw.t2; omega)⟩) (rr.2.2.2.2.2.2 p hp'))
theorem new_o (hw : WF F B) (hr : r < cR F) (h1 : i < 165 + 6 * r ∨ 165 + 6 * r + 6 ≤ i) (h2 : i < mA r 0 ∨ mA r 5 ≤ i) : newF F r k i = F i := by
  have r2 := hw.r2
  have m0 := mA_eq r 0
  have m5 := mA_eq r 5
  have wr := hw.router hr
  have w5 := wr.2.1
  obtain ⟨g1, g2, g3, g4⟩ := cut_ok (k := k) hw hr
  have mc := mA_eq r (cM (cutF F r k) r + 1)
  rw [newF_eq, fr_o (by omega) (by omega) (by omega)]
  cases ho : firN (copP F r (nI k)) (cM F r) 0 with
  | none =>
    rw [cut_none ho]
    split
    · exact drops_o (by omega) (by omega) w5 (by omega)
    · rfl
  | some p =>
    rw [(cut_some wr (by omega) ho).1]
    exact drops_o (by omega) (by omega) w5 (by omega)
theorem Upd_r (h1 : ∀ c j m, ownR c j ≠ 4 * w + r → s'.1 c j m = s.1 c j m) (h2 : ∀ i j, i ≠ 4 * w + r → s'.2 i j = s.2 i j) (h3 : permOk s → permOk s') (hr : r < 4) (h10 : w < 10) : Upd s s' w := ⟨fun c i k hc => h1 c i k (fun e => hc (by
  unfold ownR at e
  split at e
  · show i / 4 = w; omega
  · show i / 20 = w; omega
  · show (if i < 80 then i / 8 else if i < 160 then (i - 80) / 8 else (i - 160) / 20) = w
    split at e
    · omega
    · rw [if_neg (by omega), if_neg (by omega)]; omega
  · show (if i < 80 then i / 8 else (i - 80) / 20) = w
    split at e
    · omega
    · rw [if_neg (by omega)]; omega
  · omega)), fun i j hi => h2 i j (fun e => hi (by omega)), h3⟩
set_option maxHeartbeats 4000000 in
set_option maxRecDepth 100000 in
theorem c_ask (hw : WF F B) (h10 : w < 10) (hp : permOk s) (hR : RepW s w F) (hr : r < cR F) (hn : iN name 256) (h : ∀ s', Upd s s' w → RepW s' w (asksF F r name).2 → Q (some (.inl (bI ((asksF F r name).1 = true)))) s') : wpM L xs codT retT (f + 4) m_X8_ask [.inr (8, w), .inr (4, 4 * w + r), .inl name] s Q := by
  have r2 := hw.r2
  have rr := hR.router hr
  have hw1 : WF (putF F (165 + 6 * r + 1) (F (165 + 6 * r + 1) + nI 1)) B := WF_cnt (r := r) hw (by omega) (fun i hi => putF_ne _ _ (by omega))
  have hr1 : r < cR (putF F (165 + 6 * r + 1) (F (165 + 6 * r + 1) + nI 1)) := by unfold cR; rw [putF_ne _ _ (by omega)]; exact hr
  have hR1 := RepW_cnt (x := F (165 + 6 * r + 1) + nI 1) hw hp h10 hr hR (k := 1) (by omega) (by omega)
  have hwA := WF_asked (name := name) hw (show r < 4 by omega)
  have hrA : r < cR (askedF F r name) := by unfold cR; rw [asked_o (by omega) (by omega)]; exact hr
  have rr1 := hR1.router hr1
  have hR2 := RepW_cnt (x := putF F (165 + 6 * r + 1) (F (165 + 6 * r + 1) + nI 1) (165 + 6 * r + 2) + nI (wayF (putF F (165 + 6 * r + 1) (F (165 + 6 * r + 1) + nI 1)) (homeF (putF F (165 + 6 * r + 1) (F (165 + 6 * r + 1) + nI 1)) name (nI 1)))) hw1 (permOk_put hp) h10 hr1 hR1 (k := 2) (by omega) (by omega)
  rw [asked_put hw (by omega)] at hR2
  have e0 : s.1 4 (4 * w + r) 2 = F (165 + 6 * r + 1) := rr.2.1
  have e1 : (putV s 4 (4 * w + r) 2 (F (165 + 6 * r + 1) + nI 1)).1 4 (4 * w + r) 3 = putF F (165 + 6 * r + 1) (F (165 + 6 * r + 1) + nI 1) (165 + 6 * r + 2) := rr1.2.2.1
  have hk1 := homeF_ltS hw1 (a := name) (z := nI 1)
  generalize hX1 : F (165 + 6 * r + 1) + nI 1 = x1 at *
  generalize hF1 : putF F (165 + 6 * r + 1) x1 = F1 at *
  generalize hX2 : F1 (165 + 6 * r + 2) + nI (wayF F1 (homeF F1 name (nI 1))) = x2 at *
  have hU : Upd s (putV (putV s 4 (4 * w + r) (1 + 1) x1) 4 (4 * w + r) (2 + 1) x2) w := (Upd_put (own_4 (by omega))).put (own_4 (by omega))
  have p2 := hU.2.2 hp
  generalize hA : askedF F r name = A at *
  have tA := hwA.t2
  have eT : (putV (putV s 4 (4 * w + r) (1 + 1) x1) 4 (4 * w + r) (2 + 1) x2).1 8 w 4 = nI (cT A) := hR2.t1.trans hwA.t1
  cases ho : ansF A name with
  | none =>
    have e : asksF F r name = (false, A) := by unfold asksF; rw [hA, ho]
    rw [e] at h
    have h := h _ hU hR2
    intro call hcall X hX; refine hX 1000 0 _ _ _ ?_
    repeat' (first | (intro hc) | (refine And.intro ?_ ?_) | (exact absurd nI_0 ‹cmpF 0 (nI 0) 0›) | (exact absurd ‹cmpT 0 (nI 1) 0› nI1_ne) | (exact absurd nI_0 ‹cmpT 1 (nI 0) 0›) | (exact absurd ‹cmpF 1 (nI 1) 0› nI1_ne) | (show wp _ _ _ _ _ _ _ _ _ _ _ _; conv => whnf) | (rw [e0]) | (rw [hX1]) | (rw [e1]) | (rw [hX2]) | (simp (disch := omega) only [nI_add, nI_mul, setN_now, setN_put, nI_cl, Nat.add_zero]) | (refine hcall _ _ _ _ ?_; first | (refine c_homeOf hw1 hR1 ?_) | (refine c_hopsTo hw1 hR1 hk1 ?_) | (refine c_answerForE hwA hR2 hn ho ?_) | (refine c_isSite eT tA ?_) | fail))
    all_goals first
      | exact Or.inl rfl
      | exact Or.inr rfl
      | exact h
      | exact Or.inl nI_0
      | (exfalso; exact bT m1_no (by assumption))
  | some k =>
    have hk := ansF_lt ho
    have hk2 := iN_k hk (by omega)
    have e : asksF F r name = (true, newF A r k) := by unfold asksF; rw [hA, ho]
    rw [e] at h
    have e6 := hR2.h1
    have e7 := hR2.l1
    have fin : ∀ s', (∀ c j m, ownR c j ≠ 4 * w + r → s'.1 c j m = (putV (putV s 4 (4 * w + r) (1 + 1) x1) 4 (4 * w + r) (2 + 1) x2).1 c j m) → (∀ i j, i ≠ 4 * w + r → s'.2 i j = (putV (putV s 4 (4 * w + r) (1 + 1) x1) 4 (4 * w + r) (2 + 1) x2).2 i j) → permOk s' → repRouter s' (4 * w + r) (newF A r k) r → Q (some (.inl (nI 1))) s' := by
      intro s' o1 o2 o3 o4
      refine h s' (hU.trans (Upd_r o1 o2 (fun _ => o3) (by omega) h10)) ?_
      exact RepW_router hwA p2 h10 hrA hR2 o1 o2 (fun i h1 h2 => new_o hwA hrA h1 h2) o4
    clear h
    intro call hcall X hX; refine hX 1000 0 _ _ _ ?_
    repeat' (first | (intro hc) | (refine And.intro ?_ ?_) | (exact absurd nI_0 ‹cmpF 0 (nI 0) 0›) | (exact absurd ‹cmpT 0 (nI 1) 0› nI1_ne) | (exact absurd nI_0 ‹cmpT 1 (nI 0) 0›) | (exact absurd ‹cmpF 1 (nI 1) 0› nI1_ne) | (show wp _ _ _ _ _ _ _ _ _ _ _ _; conv => whnf) | (rw [e0]) | (rw [hX1]) | (rw [e1]) | (rw [hX2]) | (rw [e6]) | (rw [e7]) | (rw [show optI (some k) (-1) = nI k from rfl]) | (simp (disch := omega) only [nI_cl]) | (simp (disch := omega) only [nI_add, nI_mul, setN_now, setN_put, nI_cl, Nat.add_zero]) | (refine hcall _ _ _ _ ?_; first | (refine c_homeOf hw1 hR1 ?_) | (refine c_hopsTo hw1 hR1 hk1 ?_) | (refine c_answerForE hwA hR2 hn ho ?_) | (refine c_isSite eT tA ?_) | (refine c_addMap hwA h10 p2 hR2 hrA hk (fun s2 o1 o2 o3 o4 => ?_)) | fail))
    all_goals first
      | exact Or.inl rfl
      | exact Or.inr rfl
      | exact fin _ o1 o2 o3 o4
      | (exfalso; exact bF hk2 (by assumption))
      | (simp (disch := omega) only [show optI (some k) (-1) = nI k from rfl, nI_toI, nI_cl, alen12]; omega)
      | (simp (disch := omega) only [nI_toI, nI_cl, nI_add, nI_mul, alen11, alen12, alen13, alen14, alen15, alen16, alen17, alen18, alen19]; omega)
end CLS17
