/-! THE CLASS: new routers, sites, servers -/
section CLS11
variable {L : Nat} {xs : Nat → Int32} {f i k r p q c j n B b w w' m sd : Nat} {x y v a z l lo v0 v1 name flow place which : Int32} {s s' t : St} {F G F' u : Fm} {Q : Option MV → St → Prop} {P : Nat → Bool}
set_option maxHeartbeats 4000000 in
set_option maxRecDepth 100000 in
theorem c_routerStart (h : ∀ s', (∀ c j m, ¬ (c = 4 ∧ j = i) → s'.1 c j m = s.1 c j m) → s'.2 = s.2 → (∀ m, 1 ≤ m → m < 7 → s'.1 4 i m = nI 0) → Q none s') : wpM L xs codT retT (f + 1) m_X4_start [.inr (4, i)] s Q := by
  have h := h (putV (putV (putV (putV (putV (putV s 4 i 1 (nI 0)) 4 i 2 (nI 0)) 4 i 3 (nI 0)) 4 i 4 (nI 0)) 4 i 5 (nI 0)) 4 i 6 (nI 0)) (fun c j m e => by simp (disch := omega) only [putV_ne]) rfl (fun m h1 h2 => by
    have hm : m = 1 ∨ m = 2 ∨ m = 3 ∨ m = 4 ∨ m = 5 ∨ m = 6 := by omega
    rcases hm with t | t | t | t | t | t <;> subst t <;> simp (disch := omega) only [putV_ne, putV_at])
  intro call hcall X hX; refine hX 1000 0 _ _ _ ?_
  repeat' (first | (intro hc) | (refine And.intro ?_ ?_) | (exact absurd nI_0 ‹cmpF 0 (nI 0) 0›) | (exact absurd ‹cmpT 0 (nI 1) 0› nI1_ne) | (exact absurd nI_0 ‹cmpT 1 (nI 0) 0›) | (exact absurd ‹cmpF 1 (nI 1) 0› nI1_ne) | (show wp _ _ _ _ _ _ _ _ _ _ _ _; conv => whnf))
  exact h
theorem addI1 (h : n < 1000) : nI n + nI 1 - nI 1 = nI n := by rw [nI_add, nI_sub (by omega) (by omega), Nat.add_sub_cancel]
set_option maxHeartbeats 4000000 in
set_option maxRecDepth 100000 in
theorem c_newRouter (hw : WF F B) (hp : permOk s) (h10 : w < 10) (hR : RepW s w F) (h : ∀ s', Upd s s' w → RepW s' w (routerF F).2 → Q (some (.inl (routerF F).1)) s') : wpM L xs codT retT (f + 2) m_X8_newRouter [.inr (8, w)] s Q := by
  have r2 := hw.r2
  have s2 := hw.s2
  have t2 := hw.t2
  have e3 : s.1 8 w 5 = nI (cR F) := hR.r1.trans hw.r1
  by_cases h4 : cR F = 4
  · have e : routerF F = (-4, F) := by unfold routerF; rw [if_pos h4]
    rw [e] at h
    have h := h s Upd.refl hR
    rw [h4] at e3
    intro call hcall X hX; refine hX 1000 0 _ _ _ ?_
    repeat' (first | (intro hc) | (refine And.intro ?_ ?_) | (exact absurd nI_0 ‹cmpF 0 (nI 0) 0›) | (exact absurd ‹cmpT 0 (nI 1) 0› nI1_ne) | (exact absurd nI_0 ‹cmpT 1 (nI 0) 0›) | (exact absurd ‹cmpF 1 (nI 1) 0› nI1_ne) | (show wp _ _ _ _ _ _ _ _ _ _ _ _; conv => whnf))
    all_goals first
      | exact h
      | (clear h e; (try clear hX hcall); (try clear h); (try simp (disch := omega) only [cmpT, cmpF, bI_eq0, bI_ne0, Classical.not_not, nI_toI, nI_cl, nI_inj, nI_add, nI_mul, nI_subI, takeL, setL, Int32.toInt_zero, Nat.add_zero, setN_now, alen20, alen11, alen12, alen13, alen14, alen15, alen16, alen17, alen18, alen19, (id e3)] at *); omega)
  · have e : routerF F = (nI (cR F), fun i => if 165 + 6 * cR F ≤ i ∧ i < 165 + 6 * cR F + 6 then nI 0 else if i = 3 then F 3 + nI 1 else F i) := by unfold routerF; rw [if_neg h4]
    rw [e] at h
    dsimp only at h
    have hF : ∀ i, i ≠ 3 → (i < 165 + 6 * cR F ∨ 165 + 6 * cR F + 6 ≤ i) → (fun i => if 165 + 6 * cR F ≤ i ∧ i < 165 + 6 * cR F + 6 then nI 0 else if i = 3 then F 3 + nI 1 else F i) i = F i := fun i h1 h2 => by
      dsimp only
      rw [if_neg (by omega), if_neg h1]
    have hF3 : (fun i => if 165 + 6 * cR F ≤ i ∧ i < 165 + 6 * cR F + 6 then nI 0 else if i = 3 then F 3 + nI 1 else F i) 3 = nI (cR F + 1) := by
      dsimp only
      rw [if_neg (by omega), if_pos rfl, hw.r1, nI_add]
    have hF0 : ∀ i, 165 + 6 * cR F ≤ i → i < 165 + 6 * cR F + 6 → (fun i => if 165 + 6 * cR F ≤ i ∧ i < 165 + 6 * cR F + 6 then nI 0 else if i = 3 then F 3 + nI 1 else F i) i = nI 0 := fun i h1 h2 => by
      dsimp only
      rw [if_pos ⟨h1, h2⟩]
    generalize hG : (fun i => if 165 + 6 * cR F ≤ i ∧ i < 165 + 6 * cR F + 6 then nI 0 else if i = 3 then F 3 + nI 1 else F i) = F1 at *
    have fin : ∀ s', (∀ c j m, ¬ (c = 4 ∧ j = 4 * w + cR F) → s'.1 c j m = s.1 c j m) → s'.2 = s.2 → (∀ m, 1 ≤ m → m < 7 → s'.1 4 (4 * w + cR F) m = nI 0) → Q (some (.inl (nI (cR F)))) (putV s' 8 w 5 (nI (cR F + 1))) := by
      intro s' o1 o2 o3
      have eS : cS F1 = cS F := by unfold cS; rw [hF 1 (by omega) (by omega)]
      have eT : cT F1 = cT F := by unfold cT; rw [hF 2 (by omega) (by omega)]
      have eR : cR F1 = cR F + 1 := by unfold cR at hF3 ⊢; rw [hF3]; exact nI_cl (by unfold cR at r2; omega)
      refine h _ ⟨fun c i m hc => ?_, fun i j hi => ?_, fun g => permOk_of (fun i j => ?_) g⟩ ⟨?_, fun k hk => ?_, fun k hk => ?_, fun r hk => ?_⟩
      · rw [putV_ne (by
          by_cases e1 : c = 8
          · right; left; intro e2; subst e1; subst e2; exact hc rfl
          · exact Or.inl e1)]
        exact o1 c i m (fun q => hc (by obtain ⟨q1, q2⟩ := q; subst q1; subst q2; exact own_4 (by omega)))
      · show s'.2 i j = s.2 i j
        rw [o2]
      · show s'.2 i j = s.2 i j
        rw [o2]
      · have o8 : ∀ m, s'.1 8 w m = s.1 8 w m := fun m => o1 8 w m (by omega)
        refine ⟨?_, ?_, ?_, ?_, ?_⟩
        · rw [putV_ne (by omega), o8, hF 1 (by omega) (by omega)]; exact hR.s1
        · rw [putV_ne (by omega), o8, hF 2 (by omega) (by omega)]; exact hR.t1
        · rw [putV_at, hF3]
        · rw [putV_ne (by omega), o8, hF 0 (by omega) (by omega)]; exact hR.h1
        · rw [putV_ne (by omega), o8, hF 4 (by omega) (by omega)]; exact hR.l1
      · exact repServer_cg (fun j => (putV_ne (by omega)).trans (o1 _ _ _ (by omega))) (fun j => (putV_ne (by omega)).trans (o1 _ _ _ (by omega))) (fun i a b => hF i (by omega) (by omega)) (hR.server (by omega))
      · exact repSite_cg (fun j => (putV_ne (by omega)).trans (o1 _ _ _ (by omega))) (fun j => (putV_ne (by omega)).trans (o1 _ _ _ (by omega))) (fun j _ => (putV_ne (by omega)).trans (o1 _ _ _ (by omega))) (fun i a b => hF i (by omega) (by omega)) (hR.site (by omega))
      · have m0 := mA_eq r 0
        by_cases er : r = cR F
        · subst er
          have p0 : ∀ m, 1 ≤ m → m < 7 → (putV s' 8 w 5 (nI (cR F + 1))).1 4 (4 * w + cR F) m = nI 0 := fun m g1 g2 => (putV_ne (by omega)).trans (o3 m g1 g2)
          refine ⟨?_, ?_, ?_, ?_, ?_, ?_, fun p hp' => ?_⟩
          · rw [p0 _ (by omega) (by omega), hF0 _ (by omega) (by omega)]
          · rw [p0 _ (by omega) (by omega), hF0 _ (by omega) (by omega)]
          · rw [p0 _ (by omega) (by omega), hF0 _ (by omega) (by omega)]
          · rw [p0 _ (by omega) (by omega), hF0 _ (by omega) (by omega)]
          · rw [p0 _ (by omega) (by omega), hF0 _ (by omega) (by omega)]
          · rw [p0 _ (by omega) (by omega), hF0 _ (by omega) (by omega)]
          · exfalso
            have e0 : cM F1 (cR F) = 0 := by
              show nn (F1 (165 + 6 * cR F)) = 0
              rw [hF0 _ (by omega) (by omega)]; exact nI_cl (by omega)
            omega
        · have wr := hw.router (r := r) (by omega)
          have g := repRouter_s (s' := putV s' 8 w 5 (nI (cR F + 1))) wr hp (i := 4 * w + r) (by omega) ⟨fun c j m e => (putV_ne (by
            by_cases e1 : c = 8
            · subst e1; have e : 999 = 4 * w + r := e; omega
            · exact Or.inl e1)).trans (o1 c j m (fun q => by obtain ⟨q1, q2⟩ := q; subst q1; subst q2; have e : 4 * w + cR F = 4 * w + r := e; omega)), fun j => by show s'.2 _ j = _; rw [o2]⟩ (hR.router (by omega))
          exact repRouter_F wr (fun i a b => hF i (by omega) (by omega)) (fun i a b => hF i (by omega) (by omega)) (fun t ht => ⟨hF _ (by omega) (by omega), hF _ (by omega) (by omega)⟩) g
    clear h
    intro call hcall X hX; refine hX 1000 0 _ _ _ ?_
    repeat' (first | (intro hc) | (refine And.intro ?_ ?_) | (exact absurd nI_0 ‹cmpF 0 (nI 0) 0›) | (exact absurd ‹cmpT 0 (nI 1) 0› nI1_ne) | (exact absurd nI_0 ‹cmpT 1 (nI 0) 0›) | (exact absurd ‹cmpF 1 (nI 1) 0› nI1_ne) | (show wp _ _ _ _ _ _ _ _ _ _ _ _; conv => whnf) | (simp (disch := omega) only [nI_cl]) | (rw [e3]) | (simp (disch := omega) only [nI_add, nI_mul, setN_now, setN_put, nI_cl, Nat.add_zero]) | (refine hcall _ _ _ _ ?_; first | (refine c_routerStart (fun s1 o1 o2 o3 => ?_)) | fail))
    all_goals (try (clear e; (try clear hX hcall); (try clear h); (try simp (disch := omega) only [cmpT, cmpF, bI_eq0, bI_ne0, Classical.not_not, nI_toI, nI_cl, nI_inj, nI_add, nI_mul, nI_subI, takeL, setL, Int32.toInt_zero, Nat.add_zero, setN_now, alen20, alen11, alen12, alen13, alen14, alen15, alen16, alen17, alen18, alen19, (id e3)] at *); omega))
    have e4 : s1.1 8 w 5 = nI (cR F) := (o1 8 w 5 (by omega)).trans e3
    have hf := fin s1 o1 o2 o3
    rw [e4, putV_at, nI_add, nI_sub (by omega) (by omega), Nat.add_sub_cancel]
    exact hf
end CLS11
