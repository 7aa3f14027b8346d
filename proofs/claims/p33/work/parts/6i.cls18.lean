/-! THE CLASS: letters -/
def restU (U : Fm) (r : Nat) (name flow : Int32) : Int32 × Fm :=
  if isAtF U (nn (U (mA r 0))) (choF U (mA r 0 + 4) flow) then (choF U (mA r 0 + 4) flow, if U (mA r 0 + 1) = U (29 + 17 * nn (U (mA r 0)) + 3) then U else fun i => if i = mA r 0 + 3 then nI 1 else U i)
  else match asksF (dropsF (plusF U (165 + 6 * r + 5)) r 0) r name with
    | (true, G3) => (choF G3 (mA r 0 + 4) flow, G3)
    | (false, G3) => (proxF name, plusF G3 (165 + 6 * r + 4))
section CLS18
variable {L : Nat} {xs : Nat → Int32} {f i k r p q c j n B b w w' m sd : Nat} {x y v a z l lo v0 v1 name flow place which : Int32} {s s' s2 s3 t : St} {F G C F' U u : Fm} {Q : Option MV → St → Prop} {P : Nat → Nat}
theorem rest_eq : restF G r p name flow = restU (usesF G r p) r name flow := rfl
theorem uses_0 : usesF F r 0 = F := by
  funext i
  simp only [usesF, Nat.zero_add, Nat.mul_zero, Nat.add_zero]
  (repeat' split) <;> first | rfl | omega | (exfalso; omega)
theorem Rupd.own (h : Rupd s s' i) : ∀ c j m, ownR c j ≠ i → s'.1 c j m = s.1 c j m := fun c j m hc => h.1 c j m (fun e => hc (by obtain ⟨e1, e2⟩ := e; rw [e1, e2]; rfl))
theorem Rupd.upd (h : Rupd s s' (4 * w + r)) (hr : r < 4) (h10 : w < 10) (h3 : permOk s') : Upd s s' w := Upd_r h.own h.2 (fun _ => h3) hr h10
set_option maxHeartbeats 4000000 in
set_option maxRecDepth 100000 in
theorem c_dropW (hw : WF F B) (hp : permOk s) (h10 : w < 10) (hr : r < cR F) (hR : RepW s w F) (hpl : p < cM F r) (h : ∀ s', Upd s s' w → permOk s' → RepW s' w (dropsF F r p) → Q none s') : wpM L xs codT retT (f + 2) m_X4_drop [.inr (4, 4 * w + r), .inl (nI p)] s Q := by
  have r2 := hw.r2
  have w5 := (hw.router hr).2.1
  exact c_dropR (hw.router hr) (by omega) hw.t2 (by omega) hp (hR.router hr) hpl (fun s' u p' q => h s' (u.upd (by omega) h10 p') p' (RepW_router hw hp h10 hr hR u.own u.2 (fun i h1 h2 => drops_o (by omega) (by omega) w5 h2) q))
set_option maxHeartbeats 4000000 in
set_option maxRecDepth 100000 in
theorem c_frontW (hw : WF F B) (hp : permOk s) (h10 : w < 10) (hr : r < cR F) (hR : RepW s w F) (hpl : p < cM F r) (h : ∀ s', Upd s s' w → permOk s' → RepW s' w (usesF F r p) → Q none s') : wpM L xs codT retT (f + 2) m_X4_moveToFront [.inr (4, 4 * w + r), .inl (nI p)] s Q := by
  have r2 := hw.r2
  have w5 := (hw.router hr).2.1
  have m1 := mA_eq r (p + 1)
  have m5 := mA_eq r 5
  exact c_frontR (hw.router hr) (by omega) hw.t2 (by omega) hp (hR.router hr) hpl (fun s' u p' q => h s' (u.upd (by omega) h10 p') p' (RepW_router hw hp h10 hr hR u.own u.2 (fun i h1 h2 => uses_o (by omega)) q))
theorem end_o (hr : r < 4) (h1 : i < 165 + 6 * r ∨ 165 + 6 * r + 6 ≤ i) (h2 : i < mA r 0 ∨ mA r 5 ≤ i) : ∀ n F, n ≤ cM F r → WF F B → r < cR F → endF r n F i = F i := by
  intro n
  induction n with
  | zero => intro F _ hw hr'; rfl
  | succ n ih =>
    intro F hn hw hr'
    unfold endF
    have wr := hw.router hr'
    have w5 := wr.2.1
    by_cases h : (F (mA r n + 2)).toInt ≤ (F 0).toInt
    · rw [if_pos h]
      have d := drops_c (p := n) wr (by omega)
      rw [ih _ (by omega) (WF_drop hw hr' (by omega)) (by unfold cR; rw [drops_lo (by omega)]; exact hr')]
      exact drops_o hr (by omega) w5 h2
    · rw [if_neg h]
      exact ih F (by omega) hw hr'
set_option maxHeartbeats 4000000 in
set_option maxRecDepth 100000 in
theorem c_endedW (hw : WF F B) (hp : permOk s) (h10 : w < 10) (hr : r < cR F) (hR : RepW s w F) (hx : x = F 0) (h : ∀ s', Upd s s' w → permOk s' → RepW s' w (endF r (cM F r) F) → Q none s') : wpM L xs codT retT (f + 3) m_X4_dropEnded [.inr (4, 4 * w + r), .inl x] s Q := by
  have r2 := hw.r2
  subst hx
  exact c_dropEnded hw (by omega) hp hr (hR.router hr) (fun s' u p' q => h s' (u.upd (by omega) h10 p') p' (RepW_router hw hp h10 hr hR u.own u.2 (fun i h1 h2 => end_o (by omega) h1 h2 _ F (Nat.le_refl _) hw hr) q))
set_option maxHeartbeats 4000000 in
set_option maxRecDepth 100000 in
theorem c_goByProxy (h : Q (some (.inl (proxF name))) (putV s 4 i 5 (s.1 4 i 5 + nI 1))) : wpM L xs codT retT (f + 1) m_X8_goByProxy [.inr (8, w), .inr (4, i), .inl name] s Q := by
  intro call hcall X hX; refine hX 1000 0 _ _ _ ?_
  repeat' (first | (intro hc) | (refine And.intro ?_ ?_) | (exact absurd nI_0 ‹cmpF 0 (nI 0) 0›) | (exact absurd ‹cmpT 0 (nI 1) 0› nI1_ne) | (exact absurd nI_0 ‹cmpT 1 (nI 0) 0›) | (exact absurd ‹cmpF 1 (nI 1) 0› nI1_ne) | (show wp _ _ _ _ _ _ _ _ _ _ _ _; conv => whnf))
  all_goals first
    | exact h
    | (intro q; exact absurd q (by decide))
    | (exfalso; exact absurd (by assumption : nI 32 = 0) (by decide))
theorem have_at : haveF F (29 + 17 * k + 5) place ↔ ((F (29 + 17 * k + 5) = nI 1 ∧ F (29 + 17 * k + 6) = place) ∨ (F (29 + 17 * k + 9) = nI 1 ∧ F (29 + 17 * k + 10) = place) ∨ (F (29 + 17 * k + 13) = nI 1 ∧ F (29 + 17 * k + 14) = place)) := Iff.rfl
set_option maxHeartbeats 4000000 in
set_option maxRecDepth 100000 in
theorem c_placeByMap {y : Nat} (hw : WF F B) (hR : RepW s w F) (hm : repMap s y F r p) (wm : WFmap F r p) (hf : 0 ≤ flow.toInt) (h1 : isAtF F (nn (F (mA r p))) (choF F (mA r p + 4) flow) → ∀ s', s' = (if F (mA r p + 1) = F (29 + 17 * nn (F (mA r p)) + 3) then s else putV s 2 y 5 (nI 1)) → Q (some (.inl (choF F (mA r p + 4) flow))) s') (h2 : ¬ isAtF F (nn (F (mA r p))) (choF F (mA r p + 4) flow) → Q (some (.inl (-1))) s) : wpM L xs codT retT (f + 4) m_X8_placeByMap [.inr (8, w), .inr (2, y), .inl flow] s Q := by
  have t2 := hw.t2
  have e2 : s.1 8 w 4 = nI (cT F) := hR.t1.trans hw.t1
  obtain ⟨m0, m1, -, -, -, -, mc⟩ := hm
  obtain ⟨w0, wk, -, ws⟩ := wm
  generalize hk : nn (F (mA r p)) = k at *
  have ms : s.1 2 y 2 = nI k := m0.trans w0
  have hk2 := iN_k wk (by omega)
  have hk3 : iN (s.1 2 y 2) (cT F) := by rw [ms]; exact hk2
  obtain ⟨-, -, -, k3, -, kc⟩ := hR.site wk
  have hpos : isAtF F k (choF F (mA r p + 4) flow) → noI (choF F (mA r p + 4) flow) = choF F (mA r p + 4) flow := fun q => noI_0 (isAt_pos hw wk q).1
  have hno : ¬ isAtF F k (choF F (mA r p + 4) flow) → upF F k → ¬ haveF F (29 + 17 * k + 5) (noI (choF F (mA r p + 4) flow)) := by
    intro g1 g2 g3
    rcases choF_cases (b := mA r p + 4) ws hf with c | c
    · rw [c.2, noI_5] at g3
      have pl : ∀ j, j < 3 → F (29 + 17 * k + 5 + 4 * j) = nI 1 → F (29 + 17 * k + 5 + 4 * j + 1) ≠ -1 := fun j hj hq e => by
        have := (slot_pl (hw.flag wk j hj) hq).1
        rw [e] at this
        exact absurd this (by decide)
      rcases g3 with ⟨q1, q2⟩ | ⟨q1, q2⟩ | ⟨q1, q2⟩
      · exact pl 0 (by omega) q1 q2
      · exact pl 1 (by omega) q1 q2
      · exact pl 2 (by omega) q1 q2
    · obtain ⟨j, hj, hq, hv⟩ := c.2
      have := (slot_pl (ws j hj) hq).1
      rw [noI_0 (by rw [hv]; exact this)] at g3
      exact g1 ⟨have_at.mp g3, g2⟩
  generalize hch : choF F (mA r p + 4) flow = ch at *
  have hpf : ∀ {f : Nat} {Q : Option MV → St → Prop}, Q (some (.inl (noI ch))) s → wpM L xs codT retT (f + 3) m_X7_placeFor [.inr (7, 80 + y), .inl flow] s Q := fun h => c_placeFor mc ws hf (by rw [hch]; exact h)
  by_cases hA : isAtF F k ch
  · have h := h1 hA
    have e := hpos hA
    have hup := hA.2
    have hhv : haveF F (29 + 17 * k + 5) (noI ch) := by rw [e]; exact have_at.mpr hA.1
    clear h1 h2 hno hpos
    by_cases hv : F (mA r p + 1) = F (29 + 17 * k + 3)
    · have h := h s (by rw [if_pos hv])
      rw [← e] at h
      rw [← m1, ← k3] at hv
      intro call hcall X hX; refine hX 1000 0 _ _ _ ?_
      repeat' (first | (intro hc) | (refine And.intro ?_ ?_) | (exact absurd nI_0 ‹cmpF 0 (nI 0) 0›) | (exact absurd ‹cmpT 0 (nI 1) 0› nI1_ne) | (exact absurd nI_0 ‹cmpT 1 (nI 0) 0›) | (exact absurd ‹cmpF 1 (nI 1) 0› nI1_ne) | (show wp _ _ _ _ _ _ _ _ _ _ _ _; conv => whnf) | (rw [ms]) | (simp (disch := omega) only [nI_cl]) | (simp (disch := omega) only [nI_add, nI_mul, setN_now, setN_put, nI_cl, Nat.add_zero]) | (refine hcall _ _ _ _ ?_; first | (refine hpf ?_) | (refine c_isSite e2 t2 ?_) | (refine c_siteUp hw hR wk ?_) | (refine c_have kc (hw.flag wk) ?_) | fail))
      all_goals first
        | exact h
        | (exfalso; exact bF hk3 (by assumption))
        | (exfalso; exact bF hup (by assumption))
        | (exfalso; exact bF hhv (by assumption))
        | (rw [ms]; (simp (disch := omega) only [nI_toI, nI_cl, nI_add, nI_mul, alen11, alen12, alen13, alen14, alen15, alen16, alen17, alen18, alen19]; omega))
        | (simp (disch := omega) only [nI_toI, nI_cl, nI_add, nI_mul, alen11, alen12, alen13, alen14, alen15, alen16, alen17, alen18, alen19]; omega)
        | (exfalso; clear h hX hcall hk2 hk3 hup hhv hA hpf; simp (disch := omega) only [cmpT, cmpF, ms, nI_cl] at *; contradiction)
    · have h := h _ rfl
      rw [if_neg hv, ← e] at h
      rw [← m1, ← k3] at hv
      intro call hcall X hX; refine hX 1000 0 _ _ _ ?_
      repeat' (first | (intro hc) | (refine And.intro ?_ ?_) | (exact absurd nI_0 ‹cmpF 0 (nI 0) 0›) | (exact absurd ‹cmpT 0 (nI 1) 0› nI1_ne) | (exact absurd nI_0 ‹cmpT 1 (nI 0) 0›) | (exact absurd ‹cmpF 1 (nI 1) 0› nI1_ne) | (show wp _ _ _ _ _ _ _ _ _ _ _ _; conv => whnf) | (rw [ms]) | (simp (disch := omega) only [nI_cl]) | (simp (disch := omega) only [nI_add, nI_mul, setN_now, setN_put, nI_cl, Nat.add_zero]) | (refine hcall _ _ _ _ ?_; first | (refine hpf ?_) | (refine c_isSite e2 t2 ?_) | (refine c_siteUp hw hR wk ?_) | (refine c_have kc (hw.flag wk) ?_) | fail))
      all_goals first
        | exact h
        | exact Or.inr rfl
        | (exfalso; exact bF hk3 (by assumption))
        | (exfalso; exact bF hup (by assumption))
        | (exfalso; exact bF hhv (by assumption))
        | (rw [ms]; (simp (disch := omega) only [nI_toI, nI_cl, nI_add, nI_mul, alen11, alen12, alen13, alen14, alen15, alen16, alen17, alen18, alen19]; omega))
        | (simp (disch := omega) only [nI_toI, nI_cl, nI_add, nI_mul, alen11, alen12, alen13, alen14, alen15, alen16, alen17, alen18, alen19]; omega)
        | (exfalso; clear h hX hcall hk2 hk3 hup hhv hA hpf; simp (disch := omega) only [cmpT, cmpF, ms, nI_cl] at *; contradiction)
  · have h := h2 hA
    have hno := hno hA
    clear h1 h2 hpos
    intro call hcall X hX; refine hX 1000 0 _ _ _ ?_
    repeat' (first | (intro hc) | (refine And.intro ?_ ?_) | (exact absurd nI_0 ‹cmpF 0 (nI 0) 0›) | (exact absurd ‹cmpT 0 (nI 1) 0› nI1_ne) | (exact absurd nI_0 ‹cmpT 1 (nI 0) 0›) | (exact absurd ‹cmpF 1 (nI 1) 0› nI1_ne) | (show wp _ _ _ _ _ _ _ _ _ _ _ _; conv => whnf) | (rw [ms]) | (simp (disch := omega) only [nI_cl]) | (simp (disch := omega) only [nI_add, nI_mul, setN_now, setN_put, nI_cl, Nat.add_zero]) | (refine hcall _ _ _ _ ?_; first | (refine hpf ?_) | (refine c_isSite e2 t2 ?_) | (refine c_siteUp hw hR wk ?_) | (refine c_have kc (hw.flag wk) ?_) | fail))
    all_goals first
      | exact h
      | (exfalso; exact bF hk3 (by assumption))
      | (exfalso; exact hno (bI_ne0.mp (by assumption)) (bI_ne0.mp (by assumption)))
      | (rw [ms]; (simp (disch := omega) only [nI_toI, nI_cl, nI_add, nI_mul, alen11, alen12, alen13, alen14, alen15, alen16, alen17, alen18, alen19]; omega))
      | (simp (disch := omega) only [nI_toI, nI_cl, nI_add, nI_mul, alen11, alen12, alen13, alen14, alen15, alen16, alen17, alen18, alen19]; omega)
end CLS18
