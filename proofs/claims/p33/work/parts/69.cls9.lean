/-! THE CLASS: what the world's calls change: settings, hours, registrations, slots -/
section CLS9
variable {L : Nat} {xs : Nat → Int32} {f i k r p q c j n B b w w' m sd : Nat} {x y v a z l lo v0 v1 name flow place which : Int32} {s s' t : St} {F G F' u : Fm} {Q : Option MV → St → Prop} {P : Nat → Bool}
theorem own_8 : ownW 8 w = w := rfl
/-- only the head of a world changes, and its counts stay -/
theorem RepW_head (hw : WF F B) (hp : permOk s) (h10 : w < 10) (hR : RepW s w F) (hs : ∀ c j k, c ≠ 8 → s'.1 c j k = s.1 c j k) (hs2 : s'.2 = s.2) (hF : ∀ i, 4 < i → F' i = F i) (hc : cS F' = cS F ∧ cT F' = cT F ∧ cR F' = cR F) (h0 : s'.1 8 w 3 = F' 1 ∧ s'.1 8 w 4 = F' 2 ∧ s'.1 8 w 5 = F' 3 ∧ s'.1 8 w 6 = F' 0 ∧ s'.1 8 w 7 = F' 4) : RepW s' w F' := by
  have s2 := hw.s2
  have t2 := hw.t2
  have r2 := hw.r2
  refine ⟨h0, fun k hk => ?_, fun k hk => ?_, fun r hk => ?_⟩
  · exact repServer_cg (fun j => hs _ _ _ (by decide)) (fun j => hs _ _ _ (by decide)) (fun i a b => hF i (by omega)) (hR.server (by omega))
  · exact repSite_cg (fun j => hs _ _ _ (by decide)) (fun j => hs _ _ _ (by decide)) (fun j _ => hs _ _ _ (by decide)) (fun i a b => hF i (by omega)) (hR.site (by omega))
  · have m0 := mA_eq r 0
    have wr := hw.router (r := r) (by omega)
    have g := repRouter_s (s' := s') wr hp (by omega) ⟨fun c j k e => hs c j k (fun q => by subst q; have e : 999 = 4 * w + r := e; omega), fun j => by rw [hs2]⟩ (hR.router (by omega))
    exact repRouter_F wr (fun i a b => hF i (by omega)) (fun i a b => hF i (by omega)) (fun t ht => ⟨hF _ (by omega), hF _ (by omega)⟩) g
set_option maxHeartbeats 4000000 in
set_option maxRecDepth 100000 in
theorem c_mapLife (hw : WF F B) (hp : permOk s) (h10 : w < 10) (hR : RepW s w F) (h : ∀ s', Upd s s' w → RepW s' w (lifeF F v).2 → Q (some (.inl (lifeF F v).1)) s') : wpM L xs codT retT (f + 1) m_X8_changeMapLife [.inr (8, w), .inl v] s Q := by
  by_cases hl : 1 ≤ v.toInt ∧ v.toInt ≤ 100
  · have e : lifeF F v = (F 4, putF F 4 v) := by unfold lifeF; rw [if_neg (fun q => q hl)]
    rw [e] at h
    dsimp only at h
    have h := h (putV s 8 w 7 v) (Upd_put rfl) (RepW_head hw hp h10 hR (fun c j k q => putV_ne (Or.inl q)) rfl (fun i hi => putF_ne _ _ (by omega)) ⟨by unfold cS; rw [putF_ne _ _ (by omega)], by unfold cT; rw [putF_ne _ _ (by omega)], by unfold cR; rw [putF_ne _ _ (by omega)]⟩ ⟨by rw [putV_ne (by omega), putF_ne _ _ (by omega)]; exact hR.s1, by rw [putV_ne (by omega), putF_ne _ _ (by omega)]; exact hR.t1, by rw [putV_ne (by omega), putF_ne _ _ (by omega)]; exact hR.r1, by rw [putV_ne (by omega), putF_ne _ _ (by omega)]; exact hR.h1, by rw [putV_at, putF_at]⟩)
    rw [← hR.l1] at h
    intro call hcall X hX; refine hX 1000 0 _ _ _ ?_
    repeat' (first | (intro hc) | (refine And.intro ?_ ?_) | (exact absurd nI_0 ‹cmpF 0 (nI 0) 0›) | (exact absurd ‹cmpT 0 (nI 1) 0› nI1_ne) | (exact absurd nI_0 ‹cmpT 1 (nI 0) 0›) | (exact absurd ‹cmpF 1 (nI 1) 0› nI1_ne) | (show wp _ _ _ _ _ _ _ _ _ _ _ _; conv => whnf))
    all_goals first
      | exact h
      | ((try clear hX hcall); (try clear h); (try simp (disch := omega) only [cmpT, cmpF, bI_eq0, bI_ne0, Classical.not_not, nI_toI, nI_cl, nI_inj, nI_add, nI_mul, nI_subI, takeL, setL, Int32.toInt_zero, Nat.add_zero, Nat.zero_mul, Nat.zero_add, alen11, alen12, alen13, alen14, alen15, alen16, alen17, alen18, alen19] at *); omega)
  · have e : lifeF F v = (-2, F) := by unfold lifeF; rw [if_pos hl]
    rw [e] at h
    dsimp only at h
    have h := h s Upd.refl hR
    intro call hcall X hX; refine hX 1000 0 _ _ _ ?_
    repeat' (first | (intro hc) | (refine And.intro ?_ ?_) | (exact absurd nI_0 ‹cmpF 0 (nI 0) 0›) | (exact absurd ‹cmpT 0 (nI 1) 0› nI1_ne) | (exact absurd nI_0 ‹cmpT 1 (nI 0) 0›) | (exact absurd ‹cmpF 1 (nI 1) 0› nI1_ne) | (show wp _ _ _ _ _ _ _ _ _ _ _ _; conv => whnf))
    all_goals first
      | exact h
      | ((try clear hX hcall); (try clear h); (try simp (disch := omega) only [cmpT, cmpF, bI_eq0, bI_ne0, Classical.not_not, nI_toI, nI_cl, nI_inj, nI_add, nI_mul, nI_subI, takeL, setL, Int32.toInt_zero, Nat.add_zero, Nat.zero_mul, Nat.zero_add, alen11, alen12, alen13, alen14, alen15, alen16, alen17, alen18, alen19] at *); omega)
theorem hour_ok (hw : WF F B) (hp : permOk s) (h10 : w < 10) (hR : RepW s w F) : RepW (putV s 8 w 6 x) w (putF F 0 x) := RepW_head hw hp h10 hR (fun c j k q => putV_ne (Or.inl q)) rfl (fun i hi => putF_ne _ _ (by omega)) ⟨by unfold cS; rw [putF_ne _ _ (by omega)], by unfold cT; rw [putF_ne _ _ (by omega)], by unfold cR; rw [putF_ne _ _ (by omega)]⟩ ⟨by rw [putV_ne (by omega), putF_ne _ _ (by omega)]; exact hR.s1, by rw [putV_ne (by omega), putF_ne _ _ (by omega)]; exact hR.t1, by rw [putV_ne (by omega), putF_ne _ _ (by omega)]; exact hR.r1, by rw [putV_at, putF_at], by rw [putV_ne (by omega), putF_ne _ _ (by omega)]; exact hR.l1⟩
set_option maxHeartbeats 4000000 in
set_option maxRecDepth 100000 in
theorem c_letPass (hw : WFh F B) (hp : permOk s) (h10 : w < 10) (hR : RepW s w F) (h : ∀ s', Upd s s' w → RepW s' w (passF F v).2 → Q (some (.inl (passF F v).1)) s') : wpM L xs codT retT (f + 1) m_X8_letPass [.inr (8, w), .inl v] s Q := by
  obtain ⟨hw, h9⟩ := hw
  have hh := hw.h
  have e0 := hR.h1
  by_cases hl : 1 ≤ v.toInt ∧ v.toInt ≤ 99
  · have ea := add_hour (a := F 0) (x := v) (by omega) (by omega)
    by_cases h3 : 9999 < (F 0 + v).toInt
    · have e : passF F v = (-3, F) := by unfold passF; rw [if_neg (fun q => q hl), if_pos h3]
      rw [e] at h
      dsimp only at h
      have h := h s Upd.refl hR
      intro call hcall X hX; refine hX 1000 0 _ _ _ ?_
      repeat' (first | (intro hc) | (refine And.intro ?_ ?_) | (exact absurd nI_0 ‹cmpF 0 (nI 0) 0›) | (exact absurd ‹cmpT 0 (nI 1) 0› nI1_ne) | (exact absurd nI_0 ‹cmpT 1 (nI 0) 0›) | (exact absurd ‹cmpF 1 (nI 1) 0› nI1_ne) | (show wp _ _ _ _ _ _ _ _ _ _ _ _; conv => whnf) | (rw [e0]))
      all_goals first
        | exact h
        | (clear e; (try clear hX hcall); (try clear h); (try simp (disch := omega) only [cmpT, cmpF, bI_eq0, bI_ne0, Classical.not_not, nI_toI, nI_cl, nI_inj, nI_add, nI_mul, nI_subI, takeL, setL, Int32.toInt_zero, Nat.add_zero, setN_now, alen20, alen11, alen12, alen13, alen14, alen15, alen16, alen17, alen18, alen19, (id e0)] at *); omega)
    · have e : passF F v = (F 0 + v, putF F 0 (F 0 + v)) := by unfold passF; rw [if_neg (fun q => q hl), if_neg h3]
      rw [e] at h
      dsimp only at h
      have h := h (putV s 8 w 6 (F 0 + v)) (Upd_put rfl) (hour_ok hw hp h10 hR)
      intro call hcall X hX; refine hX 1000 0 _ _ _ ?_
      repeat' (first | (intro hc) | (refine And.intro ?_ ?_) | (exact absurd nI_0 ‹cmpF 0 (nI 0) 0›) | (exact absurd ‹cmpT 0 (nI 1) 0› nI1_ne) | (exact absurd nI_0 ‹cmpT 1 (nI 0) 0›) | (exact absurd ‹cmpF 1 (nI 1) 0› nI1_ne) | (show wp _ _ _ _ _ _ _ _ _ _ _ _; conv => whnf) | (rw [e0]) | (rw [putV_at]))
      all_goals first
        | exact h
        | (rw [putV_at]; exact h)
        | (clear e; (try clear hX hcall); (try clear h); (try simp (disch := omega) only [cmpT, cmpF, bI_eq0, bI_ne0, Classical.not_not, nI_toI, nI_cl, nI_inj, nI_add, nI_mul, nI_subI, takeL, setL, Int32.toInt_zero, Nat.add_zero, setN_now, alen20, alen11, alen12, alen13, alen14, alen15, alen16, alen17, alen18, alen19, (id e0)] at *); omega)
  · have e : passF F v = (-2, F) := by unfold passF; rw [if_pos hl]
    rw [e] at h
    dsimp only at h
    have h := h s Upd.refl hR
    intro call hcall X hX; refine hX 1000 0 _ _ _ ?_
    repeat' (first | (intro hc) | (refine And.intro ?_ ?_) | (exact absurd nI_0 ‹cmpF 0 (nI 0) 0›) | (exact absurd ‹cmpT 0 (nI 1) 0› nI1_ne) | (exact absurd nI_0 ‹cmpT 1 (nI 0) 0›) | (exact absurd ‹cmpF 1 (nI 1) 0› nI1_ne) | (show wp _ _ _ _ _ _ _ _ _ _ _ _; conv => whnf))
    all_goals first
      | exact h
      | (clear e; (try clear hX hcall); (try clear h); (try simp (disch := omega) only [cmpT, cmpF, bI_eq0, bI_ne0, Classical.not_not, nI_toI, nI_cl, nI_inj, nI_add, nI_mul, nI_subI, takeL, setL, Int32.toInt_zero, Nat.add_zero, Nat.zero_mul, Nat.zero_add, alen11, alen12, alen13, alen14, alen15, alen16, alen17, alen18, alen19] at *); omega)
def ownS (c j : Nat) : Nat := match c with
  | 6 => j
  | 1 => if j < 80 then 999 else if j < 160 then j - 80 else 999
  | 15 => if j < 80 then j else 999
  | _ => 999
/-- only site k of world w changes -/
theorem RepW_site (hw : WF F B) (hp : permOk s) (h10 : w < 10) (hk : k < cT F) (hR : RepW s w F) (hs : ∀ c j m, ownS c j ≠ 8 * w + k → s'.1 c j m = s.1 c j m) (hs2 : s'.2 = s.2) (hF : ∀ i, i < 29 + 17 * k + 2 ∨ 29 + 17 * k + 17 ≤ i → F' i = F i) (hn : repSite s' w k F') : RepW s' w F' := by
  have s2 := hw.s2
  have t2 := hw.t2
  have r2 := hw.r2
  have e1 : cS F' = cS F := by unfold cS; rw [hF 1 (by omega)]
  have e2 : cT F' = cT F := by unfold cT; rw [hF 2 (by omega)]
  have e3 : cR F' = cR F := by unfold cR; rw [hF 3 (by omega)]
  have o8 : ∀ m, s'.1 8 w m = s.1 8 w m := fun m => hs 8 w m (fun q => by have q : 999 = 8 * w + k := q; omega)
  refine ⟨?_, fun k' hk' => ?_, fun k' hk' => ?_, fun r hk' => ?_⟩
  · rw [o8, o8, o8, o8, o8, hF 0 (by omega), hF 1 (by omega), hF 2 (by omega), hF 3 (by omega), hF 4 (by omega)]
    exact hR.1
  · exact repServer_cg (fun j => hs _ _ _ (fun q => by have q : 999 = 8 * w + k := q; omega)) (fun j => hs _ _ _ (fun q => by have q : (if 8 * w + k' < 80 then 999 else if 8 * w + k' < 160 then 8 * w + k' - 80 else 999) = 8 * w + k := q; rw [if_pos (by omega)] at q; omega)) (fun i a b => hF i (by omega)) (hR.server (by omega))
  · by_cases e : k' = k
    · subst e; exact hn
    · exact repSite_cg (fun j => hs _ _ _ (fun q => by have q : 8 * w + k' = 8 * w + k := q; omega)) (fun j => hs _ _ _ (fun q => by have q : (if 80 + (8 * w + k') < 80 then 999 else if 80 + (8 * w + k') < 160 then 80 + (8 * w + k') - 80 else 999) = 8 * w + k := q; rw [if_neg (by omega), if_pos (by omega)] at q; omega)) (fun j _ => hs _ _ _ (fun q => by have q : (if 8 * w + k' < 80 then 8 * w + k' else 999) = 8 * w + k := q; rw [if_pos (by omega)] at q; omega)) (fun i a b => hF i (by omega)) (hR.site (by omega))
  · have m0 := mA_eq r 0
    have wr := hw.router (r := r) (by omega)
    have g := repRouter_s (s' := s') wr hp (i := 4 * w + r) (by omega) ⟨fun c j m e => hs c j m (fun q => by
      unfold ownR at e
      unfold ownS at q
      split at q
      · simp only at e; omega
      · simp only at e; split at e <;> split at q <;> (try split at q) <;> omega
      · simp only at e; split at e <;> split at q <;> omega
      · omega), fun j => by rw [hs2]⟩ (hR.router (by omega))
    exact repRouter_F wr (fun i a b => hF i (by omega)) (fun i a b => hF i (by omega)) (fun t ht => ⟨hF _ (by omega), hF _ (by omega)⟩) g
theorem site_put (h : ∀ c j m, ownS c j ≠ n → s'.1 c j m = s.1 c j m) (ho : ownS c i = n) : ∀ c' j m, ownS c' j ≠ n → (putV s' c i k x).1 c' j m = s.1 c' j m := fun c' j m e => (putV_ne (by
  by_cases e1 : c' = c
  · by_cases e2 : j = i
    · subst e1; subst e2; exact absurd ho e
    · exact Or.inr (Or.inl e2)
  · exact Or.inl e1)).trans (h c' j m e)
theorem site_0 : ∀ c j m, ownS c j ≠ n → s.1 c j m = s.1 c j m := fun _ _ _ _ => rfl
theorem cellsRep_p (hc : c ≠ 15 ∨ i ≠ n) (q : cellsRep s n F b) : cellsRep (putV s c i k x) n F b := cellsRep_cg (fun m => putV_ne (by omega)) q
set_option maxHeartbeats 4000000 in
set_option maxRecDepth 100000 in
theorem c_startReg (hw : WFh F B) (hp : permOk s) (h10 : w < 10) (hR : RepW s w F) (h : ∀ s', Upd s s' w → RepW s' w (regF F v).2 → Q (some (.inl (regF F v).1)) s') : wpM L xs codT retT (f + 2) m_X8_startRegistration [.inr (8, w), .inl v] s Q := by
  obtain ⟨hw, h9⟩ := hw
  have t2 := hw.t2
  have e2 : s.1 8 w 4 = nI (cT F) := hR.t1.trans hw.t1
  by_cases hv : iN v (cT F)
  · obtain ⟨k, rfl, hk⟩ := iN_nn hv (by omega)
    have e : regF F (nI k) = (F 0 + F (29 + 17 * k + 2), putF F (29 + 17 * k + 4) (F 0 + F (29 + 17 * k + 2))) := by unfold regF; rw [if_neg (fun q => q hv), show nn (nI k) = k from nI_cl (by omega)]
    rw [e] at h
    dsimp only at h
    obtain ⟨r0, r1, r2, r3, r4, rc⟩ := hR.site hk
    have h := h (putV s 6 (8 * w + k) 4 (F 0 + F (29 + 17 * k + 2))) (Upd_put (own_6 (by omega))) (RepW_site hw hp h10 hk hR (site_put site_0 rfl) rfl (fun i hi => putF_ne _ _ (by omega)) ⟨by rw [putV_ne (by omega), putF_ne _ _ (by omega)]; exact r0, by rw [putV_ne (by omega), putF_ne _ _ (by omega)]; exact r1, by rw [putV_ne (by omega), putF_ne _ _ (by omega)]; exact r2, by rw [putV_ne (by omega), putF_ne _ _ (by omega)]; exact r3, by rw [putV_at, putF_at], cellsRep_p (Or.inl (by decide)) (cellsRep_cg2 (fun _ _ => rfl) (fun i hi => putF_ne _ _ (by omega)) rc)⟩)
    have e0 := hR.h1
    intro call hcall X hX; refine hX 1000 0 _ _ _ ?_
    repeat' (first | (intro hc) | (refine And.intro ?_ ?_) | (exact absurd nI_0 ‹cmpF 0 (nI 0) 0›) | (exact absurd ‹cmpT 0 (nI 1) 0› nI1_ne) | (exact absurd nI_0 ‹cmpT 1 (nI 0) 0›) | (exact absurd ‹cmpF 1 (nI 1) 0› nI1_ne) | (show wp _ _ _ _ _ _ _ _ _ _ _ _; conv => whnf) | (simp (disch := omega) only [nI_cl]) | (rw [e0, r2]) | (rw [putV_at]) | (simp (disch := omega) only [nI_add, nI_mul, setN_now, setN_put, nI_cl, Nat.add_zero]) | (refine hcall _ _ _ _ ?_; first | (refine c_isSite e2 t2 ?_) | fail))
    all_goals first
      | exact h
      | (exfalso; exact bF hv (by assumption))
      | (simp (disch := omega) only [nI_cl, putV_at, e0, r2]; exact h)
      | (clear h hv e; (try clear hX hcall); (try clear h); (try simp (disch := omega) only [cmpT, cmpF, bI_eq0, bI_ne0, Classical.not_not, nI_toI, nI_cl, nI_inj, nI_add, nI_mul, nI_subI, takeL, setL, Int32.toInt_zero, Nat.add_zero, Nat.zero_mul, Nat.zero_add, alen11, alen12, alen13, alen14, alen15, alen16, alen17, alen18, alen19] at *); omega)
  · have e : regF F v = (-1, F) := by unfold regF; rw [if_pos hv]
    rw [e] at h
    dsimp only at h
    have h := h s Upd.refl hR
    intro call hcall X hX; refine hX 1000 0 _ _ _ ?_
    repeat' (first | (intro hc) | (refine And.intro ?_ ?_) | (exact absurd nI_0 ‹cmpF 0 (nI 0) 0›) | (exact absurd ‹cmpT 0 (nI 1) 0› nI1_ne) | (exact absurd nI_0 ‹cmpT 1 (nI 0) 0›) | (exact absurd ‹cmpF 1 (nI 1) 0› nI1_ne) | (show wp _ _ _ _ _ _ _ _ _ _ _ _; conv => whnf) | (simp (disch := omega) only [nI_add, nI_mul, setN_now, setN_put, nI_cl, Nat.add_zero]) | (refine hcall _ _ _ _ ?_; first | (refine c_isSite e2 t2 ?_) | fail))
    all_goals first
      | exact h
      | (exfalso; exact bT hv (by assumption))
set_option maxHeartbeats 4000000 in
set_option maxRecDepth 100000 in
theorem c_endReg (hw : WFh F B) (hp : permOk s) (h10 : w < 10) (hR : RepW s w F) (h : ∀ s', Upd s s' w → RepW s' w (unregF F v).2 → Q (some (.inl (unregF F v).1)) s') : wpM L xs codT retT (f + 2) m_X8_endRegistration [.inr (8, w), .inl v] s Q := by
  obtain ⟨hw, h9⟩ := hw
  have t2 := hw.t2
  have e2 : s.1 8 w 4 = nI (cT F) := hR.t1.trans hw.t1
  by_cases hv : iN v (cT F)
  · obtain ⟨k, rfl, hk⟩ := iN_nn hv (by omega)
    have en : nn (nI k) = k := nI_cl (by omega)
    obtain ⟨r0, r1, r2, r3, r4, rc⟩ := hR.site hk
    have e0 := hR.h1
    by_cases hr : (F 0).toInt < (F (29 + 17 * k + 4)).toInt
    · have e : unregF F (nI k) = (F (29 + 17 * k + 4) - F 0, putF F (29 + 17 * k + 4) (F 0)) := by unfold unregF; rw [if_neg (fun q => q hv), en, if_neg (fun q => q hr)]
      rw [e] at h
      dsimp only at h
      have h := h (putV s 6 (8 * w + k) 4 (F 0)) (Upd_put (own_6 (by omega))) (RepW_site hw hp h10 hk hR (site_put site_0 rfl) rfl (fun i hi => putF_ne _ _ (by omega)) ⟨by rw [putV_ne (by omega), putF_ne _ _ (by omega)]; exact r0, by rw [putV_ne (by omega), putF_ne _ _ (by omega)]; exact r1, by rw [putV_ne (by omega), putF_ne _ _ (by omega)]; exact r2, by rw [putV_ne (by omega), putF_ne _ _ (by omega)]; exact r3, by rw [putV_at, putF_at], cellsRep_p (Or.inl (by decide)) (cellsRep_cg2 (fun _ _ => rfl) (fun i hi => putF_ne _ _ (by omega)) rc)⟩)
      intro call hcall X hX; refine hX 1000 0 _ _ _ ?_
      repeat' (first | (intro hc) | (refine And.intro ?_ ?_) | (exact absurd nI_0 ‹cmpF 0 (nI 0) 0›) | (exact absurd ‹cmpT 0 (nI 1) 0› nI1_ne) | (exact absurd nI_0 ‹cmpT 1 (nI 0) 0›) | (exact absurd ‹cmpF 1 (nI 1) 0› nI1_ne) | (show wp _ _ _ _ _ _ _ _ _ _ _ _; conv => whnf) | (simp (disch := omega) only [nI_cl]) | (rw [e0]) | (rw [r4]) | (simp (disch := omega) only [nI_add, nI_mul, setN_now, setN_put, nI_cl, Nat.add_zero]) | (refine hcall _ _ _ _ ?_; first | (refine c_isSite e2 t2 ?_) | (refine c_siteReg hR hk ?_) | fail))
      all_goals first
        | exact h
        | (exfalso; exact bF hv (by assumption))
        | (exfalso; exact bF hr (by assumption))
        | (simp (disch := omega) only [nI_cl, e0, r4]; exact h)
        | (clear h hv e; (try clear hX hcall); (try clear h); (try simp (disch := omega) only [cmpT, cmpF, bI_eq0, bI_ne0, Classical.not_not, nI_toI, nI_cl, nI_inj, nI_add, nI_mul, nI_subI, takeL, setL, Int32.toInt_zero, Nat.add_zero, Nat.zero_mul, Nat.zero_add, alen11, alen12, alen13, alen14, alen15, alen16, alen17, alen18, alen19] at *); omega)
    · have e : unregF F (nI k) = (-3, F) := by unfold unregF; rw [if_neg (fun q => q hv), en, if_pos hr]
      rw [e] at h
      dsimp only at h
      have h := h s Upd.refl hR
      intro call hcall X hX; refine hX 1000 0 _ _ _ ?_
      repeat' (first | (intro hc) | (refine And.intro ?_ ?_) | (exact absurd nI_0 ‹cmpF 0 (nI 0) 0›) | (exact absurd ‹cmpT 0 (nI 1) 0› nI1_ne) | (exact absurd nI_0 ‹cmpT 1 (nI 0) 0›) | (exact absurd ‹cmpF 1 (nI 1) 0› nI1_ne) | (show wp _ _ _ _ _ _ _ _ _ _ _ _; conv => whnf) | (simp (disch := omega) only [nI_cl]) | (simp (disch := omega) only [nI_add, nI_mul, setN_now, setN_put, nI_cl, Nat.add_zero]) | (refine hcall _ _ _ _ ?_; first | (refine c_isSite e2 t2 ?_) | (refine c_siteReg hR hk ?_) | fail))
      all_goals first
        | exact h
        | (exfalso; exact bF hv (by assumption))
        | (exfalso; exact bT hr (by assumption))
        | (clear h hv e; (try clear hX hcall); (try clear h); (try simp (disch := omega) only [cmpT, cmpF, bI_eq0, bI_ne0, Classical.not_not, nI_toI, nI_cl, nI_inj, nI_add, nI_mul, nI_subI, takeL, setL, Int32.toInt_zero, Nat.add_zero, Nat.zero_mul, Nat.zero_add, alen11, alen12, alen13, alen14, alen15, alen16, alen17, alen18, alen19] at *); omega)
  · have e : unregF F v = (-1, F) := by unfold unregF; rw [if_pos hv]
    rw [e] at h
    dsimp only at h
    have h := h s Upd.refl hR
    intro call hcall X hX; refine hX 1000 0 _ _ _ ?_
    repeat' (first | (intro hc) | (refine And.intro ?_ ?_) | (exact absurd nI_0 ‹cmpF 0 (nI 0) 0›) | (exact absurd ‹cmpT 0 (nI 1) 0› nI1_ne) | (exact absurd nI_0 ‹cmpT 1 (nI 0) 0›) | (exact absurd ‹cmpF 1 (nI 1) 0› nI1_ne) | (show wp _ _ _ _ _ _ _ _ _ _ _ _; conv => whnf) | (simp (disch := omega) only [nI_add, nI_mul, setN_now, setN_put, nI_cl, Nat.add_zero]) | (refine hcall _ _ _ _ ?_; first | (refine c_isSite e2 t2 ?_) | fail))
    all_goals first
      | exact h
      | (exfalso; exact bT hv (by assumption))
end CLS9
