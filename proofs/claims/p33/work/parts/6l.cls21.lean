/-! THE CLASS: copies of worlds -/
section CLS21
variable {L : Nat} {xs : Nat → Int32} {f i i2 k r p q c j n B b w w' w2 m sd : Nat} {x y v z l lo v0 v1 name flow place which : Int32} {s s' s2 s3 t : St} {F G C F' U u : Fm} {Q : Option MV → St → Prop} {P : Nat → Nat}
theorem ownS_n1 (hk : k < 8) (h10 : w < 10) : ownS 1 (8 * w + k) = 999 := if_pos (by omega)
theorem Upd_s (h1 : ∀ c j m, ownS c j ≠ 8 * w + k → s'.1 c j m = s.1 c j m) (h2 : s'.2 = s.2) (hk : k < 8) (h10 : w < 10) : Upd s s' w := ⟨fun c i m hc => h1 c i m (fun e => hc (ownS_W e hk h10)), fun i j _ => by rw [h2], fun h => permOk_of (fun i j => by rw [h2]) h⟩
set_option maxHeartbeats 4000000 in
set_option maxRecDepth 100000 in
theorem c_worldCopy (hw : WF F B) (hp : permOk s) (h10 : w < 10) (h10' : w2 < 10) (hne : w ≠ w2) (hR : RepW s w2 F) (h : ∀ s', Upd s s' w → RepW s' w F → Q none s') : wpM L xs codT retT (f + 4) m_X8_copyFrom [.inr (8, w), .inr (8, w2)] s Q := by
  have s2 := hw.s2
  have t2 := hw.t2
  have r2 := hw.r2
  have src : ∀ {s1}, Upd s s1 w → RepW s1 w2 F := fun u => u.rep (Ne.symm hne) hw hp h10' hR
  have e1 : s.1 8 w2 3 = nI (cS F) := hR.s1.trans hw.s1
  intro call hcall X hX; refine hX 1000 0 _ _ _ ?_
  repeat' (first | (intro hc) | (refine And.intro ?_ ?_) | (exact absurd nI_0 ‹cmpF 0 (nI 0) 0›) | (exact absurd ‹cmpT 0 (nI 1) 0› nI1_ne) | (exact absurd nI_0 ‹cmpT 1 (nI 0) 0›) | (exact absurd ‹cmpF 1 (nI 1) 0› nI1_ne) | (show wp _ _ _ _ _ _ _ _ _ _ _ _; conv => whnf))
  simp only [takeL, setL]
  have loop3 : ∀ j, j ≤ cR F → ∀ s1, Upd s s1 w → s1.1 8 w 3 = nI (cS F) → s1.1 8 w 4 = nI (cT F) → s1.1 8 w 5 = nI (cR F) → (∀ k, k < cS F → repServer s1 w k F) → (∀ k, k < cT F → repSite s1 w k F) → (∀ r, r < j → repRouter s1 (4 * w + r) F r) → X 88 [.inr (8, w), .inr (8, w2), .inl (nI j)] [] s1 := by
    refine loopD (cR F) (fun j hj ih s1 u o3 o4 o5 aS aT aR => ?_) (fun s1 u o3 o4 o5 aS aT aR => ?_)
    · clear h
      have p1 := u.2.2 hp
      have R1 := src u
      have wr := hw.router hj
      refine hX 1000 88 _ _ _ ?_
      repeat' (first | (intro hc) | (refine And.intro ?_ ?_) | (exact absurd nI_0 ‹cmpF 0 (nI 0) 0›) | (exact absurd ‹cmpT 0 (nI 1) 0› nI1_ne) | (exact absurd nI_0 ‹cmpT 1 (nI 0) 0›) | (exact absurd ‹cmpF 1 (nI 1) 0› nI1_ne) | (show wp _ _ _ _ _ _ _ _ _ _ _ _; conv => whnf) | (rw [o5]) | (simp (disch := omega) only [nI_cl]) | (simp (disch := omega) only [nI_add, nI_mul, setN_now, setN_put, nI_cl, Nat.add_zero]) | (refine hcall _ _ _ _ ?_; first | (refine c_routerCopy wr p1 (by omega) (by omega) (by omega) (R1.router hj) (fun s3 g1 g2 q3 => ?_)) | fail))
      all_goals (try (simp (disch := omega) only [nI_toI, nI_cl, nI_add, nI_mul, alen11, alen12, alen13, alen14, alen15, alen16, alen17, alen18, alen19]; omega))
      all_goals (try (exfalso; clear ih; (try clear hX hcall); (try clear h); (try simp (disch := omega) only [cmpT, cmpF, bI_eq0, bI_ne0, Classical.not_not, nI_toI, nI_cl, nI_inj, nI_add, nI_mul, nI_subI, takeL, setL, Int32.toInt_zero, Nat.add_zero, setN_now, alen20, alen11, alen12, alen13, alen14, alen15, alen16, alen17, alen18, alen19, (id o5)] at *); omega))
      simp only [takeL, setL, nI_add, pushW]
      have o8 : ∀ m, s3.1 8 w m = s1.1 8 w m := fun m => g1 8 w m (fun q => by have q : 999 = 4 * w + j := q; omega)
      refine ih s3 (u.trans (Upd_r g1 (fun i j _ => by rw [g2]) (fun hp' => permOk_of (fun i j => by rw [g2]) hp') (by omega) h10)) ((o8 3).trans o3) ((o8 4).trans o4) ((o8 5).trans o5) (fun k hk => ?_) (fun k hk => ?_) (fun r hr' => ?_)
      · exact repServer_cg (fun m => g1 _ _ _ (fun q => by have q : 999 = 4 * w + j := q; omega)) (fun m => g1 _ _ _ (fun q => by have q : (if 8 * w + k < 160 then 999 else (8 * w + k - 160) / 5) = 4 * w + j := q; rw [if_pos (by omega)] at q; omega)) (fun _ _ _ => rfl) (aS k hk)
      · exact repSite_cg (fun m => g1 _ _ _ (fun q => by have q : 999 = 4 * w + j := q; omega)) (fun m => g1 _ _ _ (fun q => by have q : (if 80 + (8 * w + k) < 160 then 999 else (80 + (8 * w + k) - 160) / 5) = 4 * w + j := q; rw [if_pos (by omega)] at q; omega)) (fun m _ => g1 _ _ _ (fun q => by have q : (if 8 * w + k < 80 then 999 else (8 * w + k - 80) / 5) = 4 * w + j := q; rw [if_pos (by omega)] at q; omega)) (fun _ _ _ => rfl) (aT k hk)
      · by_cases e : r = j
        · subst e; exact q3
        · exact repRouter_s (hw.router (by omega)) p1 (by omega) ⟨fun c a m e' => g1 c a m (by omega), fun a => by rw [g2]⟩ (aR r (by omega))
    · have p1 := u.2.2 hp
      have R1 := src u
      have f6 := R1.h1
      have f7 : (putV s1 8 w 6 (F 0)).1 8 w2 7 = F 4 := by rw [putV_ne (by omega)]; exact R1.l1
      have hf := h (putV (putV s1 8 w 6 (F 0)) 8 w 7 (F 4)) ((u.put rfl).put rfl) ⟨⟨by simp (disch := omega) only [putV_ne]; exact o3.trans hw.s1.symm, by simp (disch := omega) only [putV_ne]; exact o4.trans hw.t1.symm, by simp (disch := omega) only [putV_ne]; exact o5.trans hw.r1.symm, by simp (disch := omega) only [putV_ne, putV_at], by simp (disch := omega) only [putV_at]⟩, fun k hk => repServer_cg (fun m => by simp (disch := omega) only [putV_ne]) (fun m => by simp (disch := omega) only [putV_ne]) (fun _ _ _ => rfl) (aS k hk), fun k hk => repSite_cg (fun m => by simp (disch := omega) only [putV_ne]) (fun m => by simp (disch := omega) only [putV_ne]) (fun m _ => by simp (disch := omega) only [putV_ne]) (fun _ _ _ => rfl) (aT k hk), fun r hr' => repRouter_s (hw.router hr') p1 (by omega) ((sameR_put (fun q => by have q : 999 = 4 * w + r := q; omega)).put (fun q => by have q : 999 = 4 * w + r := q; omega)) (aR r hr')⟩
      clear h
      refine hX 1000 88 _ _ _ ?_
      repeat' (first | (intro hc) | (refine And.intro ?_ ?_) | (exact absurd nI_0 ‹cmpF 0 (nI 0) 0›) | (exact absurd ‹cmpT 0 (nI 1) 0› nI1_ne) | (exact absurd nI_0 ‹cmpT 1 (nI 0) 0›) | (exact absurd ‹cmpF 1 (nI 1) 0› nI1_ne) | (show wp _ _ _ _ _ _ _ _ _ _ _ _; conv => whnf) | (rw [f6]) | (rw [f7]))
      all_goals first
        | exact hf
        | (rw [f7]; exact hf)
        | (clear hf; (try clear hX hcall); (try clear h); (try simp (disch := omega) only [cmpT, cmpF, bI_eq0, bI_ne0, Classical.not_not, nI_toI, nI_cl, nI_inj, nI_add, nI_mul, nI_subI, takeL, setL, Int32.toInt_zero, Nat.add_zero, setN_now, alen20, alen11, alen12, alen13, alen14, alen15, alen16, alen17, alen18, alen19, (id o5)] at *); omega)
  have loop2 : ∀ j, j ≤ cT F → ∀ s1, Upd s s1 w → s1.1 8 w 3 = nI (cS F) → s1.1 8 w 4 = nI (cT F) → (∀ k, k < cS F → repServer s1 w k F) → (∀ k, k < j → repSite s1 w k F) → X 49 [.inr (8, w), .inr (8, w2), .inl (nI j)] [] s1 := by
    refine loopD (cT F) (fun j hj ih s1 u o3 o4 aS aT => ?_) (fun s1 u o3 o4 aS aT => ?_)
    · clear h loop3
      have p1 := u.2.2 hp
      have R1 := src u
      obtain ⟨z0, z1, z2, z3, z4, zc⟩ := R1.site hj
      refine hX 1000 49 _ _ _ ?_
      repeat' (first | (intro hc) | (refine And.intro ?_ ?_) | (exact absurd nI_0 ‹cmpF 0 (nI 0) 0›) | (exact absurd ‹cmpT 0 (nI 1) 0› nI1_ne) | (exact absurd nI_0 ‹cmpT 1 (nI 0) 0›) | (exact absurd ‹cmpF 1 (nI 1) 0› nI1_ne) | (show wp _ _ _ _ _ _ _ _ _ _ _ _; conv => whnf) | (rw [o4]) | (simp (disch := omega) only [nI_cl]) | (simp (disch := omega) only [nI_add, nI_mul, setN_now, setN_put, nI_cl, Nat.add_zero]) | (refine hcall _ _ _ _ ?_; first | (refine c_siteCopy (a := 8 * w + j) (b := 8 * w2 + j) (by omega) (by omega) (fun s3 g1 g2 b0 b1 b15 m2 m3 m4 => ?_)) | fail))
      all_goals (try (simp (disch := omega) only [nI_toI, nI_cl, nI_add, nI_mul, alen11, alen12, alen13, alen14, alen15, alen16, alen17, alen18, alen19]; omega))
      all_goals (try (exfalso; clear ih; (try clear hX hcall); (try clear h); (try simp (disch := omega) only [cmpT, cmpF, bI_eq0, bI_ne0, Classical.not_not, nI_toI, nI_cl, nI_inj, nI_add, nI_mul, nI_subI, takeL, setL, Int32.toInt_zero, Nat.add_zero, setN_now, alen20, alen11, alen12, alen13, alen14, alen15, alen16, alen17, alen18, alen19, (id o4)] at *); omega))
      simp only [takeL, setL, nI_add, pushW]
      have o8 : ∀ m, s3.1 8 w m = s1.1 8 w m := fun m => g1 8 w m (fun q => by have q : 999 = 8 * w + j := q; omega)
      refine ih s3 (u.trans (Upd_s g1 g2 (by omega) h10)) ((o8 3).trans o3) ((o8 4).trans o4) (fun k hk => ?_) (fun k hk => ?_)
      · exact repServer_cg (fun m => g1 _ _ _ (fun q => by have q : 999 = 8 * w + j := q; omega)) (fun m => g1 _ _ _ (fun q => by rw [ownS_n1 (by omega) h10] at q; omega)) (fun _ _ _ => rfl) (aS k hk)
      · by_cases e : k = j
        · subst e
          exact ⟨b0.trans z0, b1.trans z1, m2.trans z2, m3.trans z3, m4.trans z4, cellsRep_cg2 b15 (fun _ _ => rfl) zc⟩
        · exact repSite_cg (fun m => g1 _ _ _ (fun q => by have q : 8 * w + k = 8 * w + j := q; omega)) (fun m => g1 _ _ _ (fun q => by have q : (if 80 + (8 * w + k) < 80 then 999 else if 80 + (8 * w + k) < 160 then 80 + (8 * w + k) - 80 else 999) = 8 * w + j := q; rw [if_neg (by omega), if_pos (by omega)] at q; omega)) (fun m _ => g1 _ _ _ (fun q => by have q : (if 8 * w + k < 80 then 8 * w + k else 999) = 8 * w + j := q; rw [if_pos (by omega)] at q; omega)) (fun _ _ _ => rfl) (aT k (by omega))
    · have R1 := src u
      have p1 := u.2.2 hp
      have f5 : s1.1 8 w2 5 = nI (cR F) := R1.r1.trans hw.r1
      have hf := loop3 0 (by omega) (putV s1 8 w 5 (nI (cR F))) (u.put rfl) ((putV_ne (by omega)).trans o3) ((putV_ne (by omega)).trans o4) putV_at (fun k hk => repServer_cg (fun m => by simp (disch := omega) only [putV_ne]) (fun m => by simp (disch := omega) only [putV_ne]) (fun _ _ _ => rfl) (aS k hk)) (fun k hk => repSite_cg (fun m => by simp (disch := omega) only [putV_ne]) (fun m => by simp (disch := omega) only [putV_ne]) (fun m _ => by simp (disch := omega) only [putV_ne]) (fun _ _ _ => rfl) (aT k hk)) (fun r hr' => absurd hr' (by omega))
      clear h loop3
      refine hX 1000 49 _ _ _ ?_
      repeat' (first | (intro hc) | (refine And.intro ?_ ?_) | (exact absurd nI_0 ‹cmpF 0 (nI 0) 0›) | (exact absurd ‹cmpT 0 (nI 1) 0› nI1_ne) | (exact absurd nI_0 ‹cmpT 1 (nI 0) 0›) | (exact absurd ‹cmpF 1 (nI 1) 0› nI1_ne) | (show wp _ _ _ _ _ _ _ _ _ _ _ _; conv => whnf) | (rw [f5]))
      all_goals first
        | exact hf
        | (rw [f5]; exact hf)
        | (simp only [takeL, setL]; rw [f5]; exact hf)
        | (clear hf; (try clear hX hcall); (try clear h); (try simp (disch := omega) only [cmpT, cmpF, bI_eq0, bI_ne0, Classical.not_not, nI_toI, nI_cl, nI_inj, nI_add, nI_mul, nI_subI, takeL, setL, Int32.toInt_zero, Nat.add_zero, setN_now, alen20, alen11, alen12, alen13, alen14, alen15, alen16, alen17, alen18, alen19, (id o4)] at *); omega)
  have loop1 : ∀ j, j ≤ cS F → ∀ s1, Upd s s1 w → s1.1 8 w 3 = nI (cS F) → (∀ k, k < j → repServer s1 w k F) → X 10 [.inr (8, w), .inr (8, w2), .inl (nI j)] [] s1 := by
    refine loopD (cS F) (fun j hj ih s1 u o3 aS => ?_) (fun s1 u o3 aS => ?_)
    · clear h loop3 loop2
      have p1 := u.2.2 hp
      have R1 := src u
      obtain ⟨z0, z1, z2⟩ := R1.server hj
      refine hX 1000 10 _ _ _ ?_
      repeat' (first | (intro hc) | (refine And.intro ?_ ?_) | (exact absurd nI_0 ‹cmpF 0 (nI 0) 0›) | (exact absurd ‹cmpT 0 (nI 1) 0› nI1_ne) | (exact absurd nI_0 ‹cmpT 1 (nI 0) 0›) | (exact absurd ‹cmpF 1 (nI 1) 0› nI1_ne) | (show wp _ _ _ _ _ _ _ _ _ _ _ _; conv => whnf) | (rw [o3]) | (simp (disch := omega) only [nI_cl]) | (simp (disch := omega) only [nI_add, nI_mul, setN_now, setN_put, nI_cl, Nat.add_zero]) | (refine hcall _ _ _ _ ?_; first | (refine c_serverCopy (fun s3 g1 g2 b0 b1 m1 => ?_)) | fail))
      all_goals (try (simp (disch := omega) only [nI_toI, nI_cl, nI_add, nI_mul, alen11, alen12, alen13, alen14, alen15, alen16, alen17, alen18, alen19]; omega))
      all_goals (try (exfalso; clear ih; (try clear hX hcall); (try clear h); (try simp (disch := omega) only [cmpT, cmpF, bI_eq0, bI_ne0, Classical.not_not, nI_toI, nI_cl, nI_inj, nI_add, nI_mul, nI_subI, takeL, setL, Int32.toInt_zero, Nat.add_zero, setN_now, alen20, alen11, alen12, alen13, alen14, alen15, alen16, alen17, alen18, alen19, (id o3)] at *); omega))
      simp only [takeL, setL, nI_add, pushW]
      refine ih s3 (u.trans ⟨fun c i m hc => g1 c i m (fun g => hc (by obtain ⟨q1, q2⟩ := g; rw [q1, q2]; exact own_1a h10 (by omega))) (fun g => hc (by obtain ⟨q1, q2⟩ := g; rw [q1, q2]; exact own_5 (by omega))), fun i j _ => by rw [g2], fun hp' => permOk_of (fun i j => by rw [g2]) hp'⟩) ((g1 8 w 3 (by omega) (by omega)).trans o3) (fun k hk => ?_)
      by_cases e : k = j
      · subst e
        exact ⟨m1.trans z0, b0.trans z1, b1.trans z2⟩
      · exact repServer_cg (fun m => g1 _ _ _ (by omega) (by omega)) (fun m => g1 _ _ _ (by omega) (by omega)) (fun _ _ _ => rfl) (aS k (by omega))
    · have R1 := src u
      have p1 := u.2.2 hp
      have f4 : s1.1 8 w2 4 = nI (cT F) := R1.t1.trans hw.t1
      have hf := loop2 0 (by omega) (putV s1 8 w 4 (nI (cT F))) (u.put rfl) ((putV_ne (by omega)).trans o3) putV_at (fun k hk => repServer_cg (fun m => by simp (disch := omega) only [putV_ne]) (fun m => by simp (disch := omega) only [putV_ne]) (fun _ _ _ => rfl) (aS k hk)) (fun r hr' => absurd hr' (by omega))
      clear h loop3 loop2
      refine hX 1000 10 _ _ _ ?_
      repeat' (first | (intro hc) | (refine And.intro ?_ ?_) | (exact absurd nI_0 ‹cmpF 0 (nI 0) 0›) | (exact absurd ‹cmpT 0 (nI 1) 0› nI1_ne) | (exact absurd nI_0 ‹cmpT 1 (nI 0) 0›) | (exact absurd ‹cmpF 1 (nI 1) 0› nI1_ne) | (show wp _ _ _ _ _ _ _ _ _ _ _ _; conv => whnf) | (rw [f4]))
      all_goals first
        | exact hf
        | (rw [f4]; exact hf)
        | (simp only [takeL, setL]; rw [f4]; exact hf)
        | (clear hf; (try clear hX hcall); (try clear h); (try simp (disch := omega) only [cmpT, cmpF, bI_eq0, bI_ne0, Classical.not_not, nI_toI, nI_cl, nI_inj, nI_add, nI_mul, nI_subI, takeL, setL, Int32.toInt_zero, Nat.add_zero, setN_now, alen20, alen11, alen12, alen13, alen14, alen15, alen16, alen17, alen18, alen19, (id o3)] at *); omega)
  have hf := loop1 0 (by omega) (putV s 8 w 3 (nI (cS F))) (Upd_put rfl) putV_at (fun k hk => absurd hk (by omega))
  rw [e1]
  exact hf
end CLS21
