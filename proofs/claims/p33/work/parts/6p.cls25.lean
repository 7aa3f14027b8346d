/-! THE CLASS: undo, save, restore, rehearsals -/
section CLS25
variable {L : Nat} {xs : Nat → Int32} {f i i2 k r p q c j n B B' b w w' w2 m sd : Nat} {x y v z a l lo v0 v1 name flow place which : Int32} {s s' s2 s3 t : St} {F F0 F1 G C F' U u : Fm} {Q : Option MV → St → Prop} {P : Nat → Nat} {o : Int32 × Fm}
theorem CL_upd (hC : CL s F G n B) (u : Upd s s' 1) : CL s' F G n B := by
  obtain ⟨hp, ⟨hR, hW⟩, ⟨o, ho6, hn, ho, hct, hh⟩, hs⟩ := hC
  refine ⟨u.2.2 hp, ⟨u.rep (by omega) hW.1 hp (by omega) hR, hW⟩, ⟨o, ho6, hn, (u.kk (by omega) (by omega)).trans ho, (u.kk (by omega) (by omega)).trans hct, fun i hi => ?_⟩, fun j hj => ?_⟩
  · obtain ⟨g1, g2⟩ := hh i hi
    exact ⟨u.rep (by omega) g2.1 hp (by omega) g1, g2⟩
  · obtain ⟨g1, g2⟩ := hs j hj
    rw [u.kk (by omega) (by omega)]
    exact ⟨g1, fun q => ⟨u.rep (by omega) (g2 q).2.1 hp (by omega) (g2 q).1, (g2 q).2⟩⟩
set_option maxHeartbeats 4000000 in
set_option maxRecDepth 100000 in
theorem c_takeLatest (hC : CL s F G n B) (h0 : 0 < n) (h : ∀ s', Fr s s' → CL s' (rowG G (n - 1)) G (n - 1) B → Q none s') : wpM L xs codT retT (f + 5) m_X3_takeLatest [.inr (3, 0), .inr (8, 0)] s Q := by
  obtain ⟨hp, ⟨hR, hW⟩, ⟨o, ho6, hn, ho, hct, hh⟩, hs⟩ := hC
  have hm : (o + (n - 1)) % 6 < 6 := Nat.mod_lt _ (by omega)
  obtain ⟨hl1, hl2⟩ := hh (n - 1) (by omega)
  have k1 : ∀ w F, w < 10 → WF F B → RepW s w F → RepW (putV s 3 0 2 (nI (n - 1))) w F := fun w F h10 w1 q => RepW_put (Or.inl rfl) w1 hp h10 q
  have p1 : permOk (putV s 3 0 2 (nI (n - 1))) := permOk_put hp
  have h : ∀ s', Upd (putV s 3 0 2 (nI (n - 1))) s' 0 → RepW s' 0 (rowG G (n - 1)) → Q none s' := fun s' u R => h s' ((Fr_put rfl).trans (u.fr (by omega))) ⟨u.2.2 p1, ⟨R, hl2⟩, ⟨o, ho6, by omega, (u.kk (by omega) (by omega)).trans ((putV_ne (by omega)).trans ho), (u.kk (by omega) (by omega)).trans putV_at, fun i hi => by
    obtain ⟨g1, g2⟩ := hh i (by omega)
    exact ⟨u.rep (by omega) g2.1 p1 (by omega) (k1 _ _ (by omega) g2.1 g1), g2⟩⟩, fun j hj => by
    obtain ⟨g1, g2⟩ := hs j hj
    rw [u.kk (by omega) (by omega), putV_ne (by omega)]
    exact ⟨g1, fun q => ⟨u.rep (by omega) (g2 q).2.1 p1 (by omega) (k1 _ _ (by omega) (g2 q).2.1 (g2 q).1), (g2 q).2⟩⟩⟩
  have e1 : (putV s 3 0 2 (nI (n - 1))).1 3 0 1 = nI o := (putV_ne (by omega)).trans ho
  have ef : fv (putV s 3 0 2 (nI (n - 1))) 3 0 2 = .inl (nI (n - 1)) := by
    show (Sum.inl ((putV s 3 0 2 (nI (n - 1))).1 3 0 2) : MV) = _
    rw [putV_at]
  have en : s.1 3 0 2 - nI 1 = nI (n - 1) := by rw [hct, nI_sub (by omega) (by omega)]
  intro call hcall X hX; refine hX 1000 0 _ _ _ ?_
  repeat' (first | (intro hc) | (refine And.intro ?_ ?_) | (exact absurd nI_0 ‹cmpF 0 (nI 0) 0›) | (exact absurd ‹cmpT 0 (nI 1) 0› nI1_ne) | (exact absurd nI_0 ‹cmpT 1 (nI 0) 0›) | (exact absurd ‹cmpF 1 (nI 1) 0› nI1_ne) | (show wp _ _ _ _ _ _ _ _ _ _ _ _; conv => whnf) | (rw [en]) | (rw [ef]) | (simp (disch := omega) only [nI_cl]) | (simp (disch := omega) only [nI_add, nI_mul, setN_now, setN_put, nI_cl, Nat.add_zero]) | (refine hcall _ _ _ _ ?_; first | (refine c_row (i := n - 1) (by omega) ho6 e1 ?_) | (refine c_worldCopy hl2.1 p1 (w := 0) (w2 := 2 + (o + (n - 1)) % 6) (by omega) (by omega) (by omega) (k1 _ _ (by omega) hl2.1 hl1) (fun s' u R => ?_)) | fail))
  all_goals first
    | exact h _ u R
    | (simp (disch := omega) only [nI_toI, nI_cl, nI_add, nI_mul, alen11, alen12, alen13, alen14, alen15, alen16, alen17, alen18, alen19]; omega)
    | (clear h k1 hs hh; (try clear hX hcall); (try clear h); (try simp (disch := omega) only [cmpT, cmpF, bI_eq0, bI_ne0, Classical.not_not, nI_toI, nI_cl, nI_inj, nI_add, nI_mul, nI_subI, takeL, setL, Int32.toInt_zero, Nat.add_zero, setN_now, alen20, alen11, alen12, alen13, alen14, alen15, alen16, alen17, alen18, alen19, (id hct)] at *); omega)
set_option maxHeartbeats 4000000 in
set_option maxRecDepth 100000 in
theorem x_undo (hC : CL s F G n B) (h0 : n = 0 → Q (some (.inl (-3))) s) (h : 0 < n → ∀ s', Fr s s' → CL s' (rowG G (n - 1)) G (n - 1) B → Q (some (.inl (nI (n - 1)))) s') : wpM L xs codT retT (f + 6) m_X9_undo [.inr (9, 0)] s Q := by
  have hC' := hC
  obtain ⟨hp, ⟨hR, hW⟩, ⟨o, ho6, hn, ho, hct, hh⟩, hs⟩ := hC'
  by_cases hz : n = 0
  · have h00 := h0 hz
    clear h0 h
    subst hz
    intro call hcall X hX; refine hX 1000 0 _ _ _ ?_
    repeat' (first | (intro hc) | (refine And.intro ?_ ?_) | (exact absurd nI_0 ‹cmpF 0 (nI 0) 0›) | (exact absurd ‹cmpT 0 (nI 1) 0› nI1_ne) | (exact absurd nI_0 ‹cmpT 1 (nI 0) 0›) | (exact absurd ‹cmpF 1 (nI 1) 0› nI1_ne) | (show wp _ _ _ _ _ _ _ _ _ _ _ _; conv => whnf))
    all_goals first
      | exact h00
      | (exfalso; exact (by assumption : cmpT 1 (s.1 3 0 2) 0) (hct.trans nI_0))
  · have h := h (by omega)
    have hn0 : ¬ s.1 3 0 2 = 0 := fun q => hz ((nI_inj (by omega) (by omega)).mp ((hct.symm.trans q).trans nI_0.symm))
    clear h0
    intro call hcall X hX; refine hX 1000 0 _ _ _ ?_
    repeat' (first | (intro hc) | (refine And.intro ?_ ?_) | (exact absurd nI_0 ‹cmpF 0 (nI 0) 0›) | (exact absurd ‹cmpT 0 (nI 1) 0› nI1_ne) | (exact absurd nI_0 ‹cmpT 1 (nI 0) 0›) | (exact absurd ‹cmpF 1 (nI 1) 0› nI1_ne) | (show wp _ _ _ _ _ _ _ _ _ _ _ _; conv => whnf) | (simp (disch := omega) only [nI_add, nI_mul, setN_now, setN_put, nI_cl, Nat.add_zero]) | (refine hcall _ _ _ _ ?_; first | (refine c_takeLatest hC (by omega) (fun s1 f1 c1 => ?_)) | fail))
    all_goals first
      | (exfalso; exact hn0 (by assumption : cmpF 1 (s.1 3 0 2) 0))
      | (obtain ⟨o', -, -, -, hct', -⟩ := c1.2.2.1; rw [hct']; exact h _ f1 c1)
theorem keep_row (hk : k < 509) : rowG (keepG G F c) i k = if i = c then F k else rowG G i k := by
  unfold rowG keepG
  by_cases h : i = c
  · rw [if_pos (by omega), if_pos h, show 509 * i + k - 509 * c = k by omega]
  · rw [if_neg (by omega), if_neg h]
set_option maxHeartbeats 4000000 in
set_option maxRecDepth 100000 in
theorem x_save (hC : CL s F G n B) (h0 : ¬ iN v 2 → Q (some (.inl (-1))) s) (h : ∀ j, j < 2 → v = nI j → ∀ s', (∀ c i k, (c = 0 ∨ c = 19 ∨ c = 10 ∨ 20 ≤ c) → s'.1 c i k = s.1 c i k) → (s'.1 18 0 j = nI 1 ∧ ∀ k, k ≠ j → s'.1 18 0 k = s.1 18 0 k) → CL s' F (keepG G F (5 + j)) n B → Q (some (.inl (F 0))) s') : wpM L xs codT retT (f + 5) m_X9_save [.inr (9, 0), .inl v] s Q := by
  obtain ⟨hp, ⟨hR, hW⟩, ⟨o, ho6, hn, ho, hct, hh⟩, hs⟩ := hC
  by_cases hv : iN v 2
  · obtain ⟨j, rfl, hj⟩ := iN_nn hv (by omega)
    have fin : ∀ s1, Upd s s1 (8 + j) → RepW s1 (8 + j) F → Q (some (.inl ((putV s1 18 0 j (nI 1)).1 8 0 6))) (putV s1 18 0 j (nI 1)) := by
      intro s1 u R
      have p1 := u.2.2 hp
      have k1 : ∀ w F, w < 10 → WF F B → RepW s1 w F → RepW (putV s1 18 0 j (nI 1)) w F := fun w F h10 w1 q => RepW_put (Or.inr rfl) w1 p1 h10 q
      have R0 := u.rep (w' := 0) (by omega) hW.1 hp (by omega) hR
      rw [putV_ne (by omega), R0.h1]
      refine h j hj rfl _ (fun c i k hc => (putV_ne (by omega)).trans (u.fr (by omega) c i k (by omega))) ⟨putV_at, fun k hk => (putV_ne (by omega)).trans (u.kk (by omega) (by omega))⟩ ⟨permOk_put p1, ⟨k1 _ _ (by omega) hW.1 R0, hW⟩, ⟨o, ho6, hn, (putV_ne (by omega)).trans ((u.kk (by omega) (by omega)).trans ho), (putV_ne (by omega)).trans ((u.kk (by omega) (by omega)).trans hct), fun i hi => ?_⟩, fun j' hj' => ?_⟩
      · obtain ⟨g1, g2⟩ := hh i hi
        have er : ∀ k, k < 509 → rowG (keepG G F (5 + j)) i k = rowG G i k := fun k hk => by rw [keep_row hk, if_neg (by omega)]
        exact ⟨RepW_F g2.1 er (k1 _ _ (by omega) g2.1 (u.rep (by omega) g2.1 hp (by omega) g1)), WFh_F er g2⟩
      · by_cases e : j' = j
        · subst e
          have er : ∀ k, k < 509 → rowG (keepG G F (5 + j')) (5 + j') k = F k := fun k hk => by rw [keep_row hk, if_pos rfl]
          rw [putV_at]
          exact ⟨Or.inr rfl, fun _ => ⟨RepW_F hW.1 er (k1 _ _ (by omega) hW.1 R), WFh_F er hW⟩⟩
        · obtain ⟨g1, g2⟩ := hs j' hj'
          have er : ∀ k, k < 509 → rowG (keepG G F (5 + j)) (5 + j') k = rowG G (5 + j') k := fun k hk => by rw [keep_row hk, if_neg (by omega)]
          rw [putV_ne (by omega), u.kk (by omega) (by omega)]
          exact ⟨g1, fun q => ⟨RepW_F (g2 q).2.1 er (k1 _ _ (by omega) (g2 q).2.1 (u.rep (by omega) (g2 q).2.1 hp (by omega) (g2 q).1)), WFh_F er (g2 q).2⟩⟩
    clear h h0 hh hs
    intro call hcall X hX; refine hX 1000 0 _ _ _ ?_
    repeat' (first | (intro hc) | (refine And.intro ?_ ?_) | (exact absurd nI_0 ‹cmpF 0 (nI 0) 0›) | (exact absurd ‹cmpT 0 (nI 1) 0› nI1_ne) | (exact absurd nI_0 ‹cmpT 1 (nI 0) 0›) | (exact absurd ‹cmpF 1 (nI 1) 0› nI1_ne) | (show wp _ _ _ _ _ _ _ _ _ _ _ _; conv => whnf) | (simp (disch := omega) only [nI_cl]) | (simp (disch := omega) only [nI_add, nI_mul, setN_now, setN_put, nI_cl, Nat.add_zero]) | (refine hcall _ _ _ _ ?_; first | (refine c_sSave ?_) | (refine c_worldCopy hW.1 hp (w := 8 + j) (w2 := 0) (by omega) (by omega) (by omega) hR (fun s1 u R => ?_)) | fail))
    all_goals first
      | exact Or.inr rfl
      | exact fin _ u R
      | (exfalso; exact bF hv (by assumption))
      | (simp (disch := omega) only [nI_cl]; exact fin _ u R)
      | (simp (disch := omega) only [nI_toI, nI_cl, nI_add, nI_mul, alen11, alen12, alen13, alen14, alen15, alen16, alen17, alen18, alen19]; omega)
  · have h0 := h0 hv
    clear h hh hs
    intro call hcall X hX; refine hX 1000 0 _ _ _ ?_
    repeat' (first | (intro hc) | (refine And.intro ?_ ?_) | (exact absurd nI_0 ‹cmpF 0 (nI 0) 0›) | (exact absurd ‹cmpT 0 (nI 1) 0› nI1_ne) | (exact absurd nI_0 ‹cmpT 1 (nI 0) 0›) | (exact absurd ‹cmpF 1 (nI 1) 0› nI1_ne) | (show wp _ _ _ _ _ _ _ _ _ _ _ _; conv => whnf) | (simp (disch := omega) only [nI_add, nI_mul, setN_now, setN_put, nI_cl, Nat.add_zero]) | (refine hcall _ _ _ _ ?_; first | (refine c_sSave ?_) | fail))
    all_goals first
      | exact h0
      | (exfalso; exact bT hv (by assumption))
set_option maxHeartbeats 4000000 in
set_option maxRecDepth 100000 in
theorem x_restore (hC : CL s F G n B) (h0 : ¬ iN v 2 → Q (some (.inl (-1))) s) (h1 : ∀ j, j < 2 → v = nI j → s.1 18 0 j = 0 → Q (some (.inl (-3))) s) (h : ∀ j, j < 2 → v = nI j → ¬ s.1 18 0 j = 0 → ∀ s', Fr s s' → CL s' (rowG G (5 + j)) (recG G F n) (recN n) B → Q (some (.inl (rowG G (5 + j) 0))) s') : wpM L xs codT retT (f + 6) m_X9_restore [.inr (9, 0), .inl v] s Q := by
  by_cases hv : iN v 2
  · obtain ⟨j, rfl, hj⟩ := iN_nn hv (by omega)
    by_cases hz : s.1 18 0 j = 0
    · have h1 := h1 j hj rfl hz
      clear h h0
      intro call hcall X hX; refine hX 1000 0 _ _ _ ?_
      repeat' (first | (intro hc) | (refine And.intro ?_ ?_) | (exact absurd nI_0 ‹cmpF 0 (nI 0) 0›) | (exact absurd ‹cmpT 0 (nI 1) 0› nI1_ne) | (exact absurd nI_0 ‹cmpT 1 (nI 0) 0›) | (exact absurd ‹cmpF 1 (nI 1) 0› nI1_ne) | (show wp _ _ _ _ _ _ _ _ _ _ _ _; conv => whnf) | (simp (disch := omega) only [nI_cl]) | (simp (disch := omega) only [nI_add, nI_mul, setN_now, setN_put, nI_cl, Nat.add_zero]) | (refine hcall _ _ _ _ ?_; first | (refine c_sSave ?_) | fail))
      all_goals first
        | exact h1
        | (exfalso; exact bF hv (by assumption))
        | (simp (disch := omega) only [nI_toI, nI_cl, nI_add, nI_mul, alen11, alen12, alen13, alen14, alen15, alen16, alen17, alen18, alen19]; omega)
        | (exfalso; clear h1 hX hcall; simp (disch := omega) only [cmpT, cmpF, nI_cl] at *; contradiction)
    · have h := h j hj rfl hz
      clear h0 h1
      have sw : ∀ {s1}, Fr s s1 → DR s1 F F G n B → RepW s1 (8 + j) (rowG G (5 + j)) ∧ WFh (rowG G (5 + j)) B := fun f1 d1 => (d1.2.2.2 j hj).2 (by rw [f1 18 0 j (by omega)]; exact hz)
      intro call hcall X hX; refine hX 1000 0 _ _ _ ?_
      repeat' (first | (intro hc) | (refine And.intro ?_ ?_) | (exact absurd nI_0 ‹cmpF 0 (nI 0) 0›) | (exact absurd ‹cmpT 0 (nI 1) 0› nI1_ne) | (exact absurd nI_0 ‹cmpT 1 (nI 0) 0›) | (exact absurd ‹cmpF 1 (nI 1) 0› nI1_ne) | (show wp _ _ _ _ _ _ _ _ _ _ _ _; conv => whnf) | (simp (disch := omega) only [nI_cl]) | (rw [R.h1]) | (simp (disch := omega) only [nI_add, nI_mul, setN_now, setN_put, nI_cl, Nat.add_zero]) | (refine hcall _ _ _ _ ?_; first | (refine c_sSave ?_) | (refine c_draft hC (fun s1 f1 d1 => ?_)) | (refine c_worldCopy (sw f1 d1).2.1 d1.1 (w := 0) (w2 := 8 + j) (by omega) (by omega) (by omega) (sw f1 d1).1 (fun s2 u R => ?_)) | (refine c_recorded (d1.upd (B' := B) u R (sw f1 d1).2 (by omega)) (fun hv => ?_) (fun hv s3 f3 c3 => ?_)) | fail))
      all_goals first
        | exact h _ (f1.trans ((u.fr (by omega)).trans f3)) c3
        | (exfalso; exact bF hv (by assumption))
        | (exfalso; have t0 := (sw f1 d1).2.1.h; rw [R.h1] at hv; omega)
        | (simp (disch := omega) only [nI_toI, nI_cl, nI_add, nI_mul, alen11, alen12, alen13, alen14, alen15, alen16, alen17, alen18, alen19]; omega)
        | (exfalso; clear h hX hcall sw; simp (disch := omega) only [cmpT, cmpF, nI_cl] at *; contradiction)
  · have h0 := h0 hv
    clear h h1
    intro call hcall X hX; refine hX 1000 0 _ _ _ ?_
    repeat' (first | (intro hc) | (refine And.intro ?_ ?_) | (exact absurd nI_0 ‹cmpF 0 (nI 0) 0›) | (exact absurd ‹cmpT 0 (nI 1) 0› nI1_ne) | (exact absurd nI_0 ‹cmpT 1 (nI 0) 0›) | (exact absurd ‹cmpF 1 (nI 1) 0› nI1_ne) | (show wp _ _ _ _ _ _ _ _ _ _ _ _; conv => whnf) | (simp (disch := omega) only [nI_add, nI_mul, setN_now, setN_put, nI_cl, Nat.add_zero]) | (refine hcall _ _ _ _ ?_; first | (refine c_sSave ?_) | fail))
    all_goals first
      | exact h0
      | (exfalso; exact bT hv (by assumption))
end CLS25
