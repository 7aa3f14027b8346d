/-! THE CLASS: copies -/
section CLS20
variable {L : Nat} {xs : Nat → Int32} {f i i2 k r p q c j n B b w w' w2 m sd : Nat} {x y v z l lo v0 v1 name flow place which : Int32} {s s' s2 s3 t : St} {F G C F' U u : Fm} {Q : Option MV → St → Prop} {P : Nat → Nat}
set_option maxHeartbeats 4000000 in
set_option maxRecDepth 100000 in
theorem c_serverCopy {a : Nat} (h : ∀ s', (∀ c j m, ¬ (c = 1 ∧ j = a) → ¬ (c = 5 ∧ j = a) → s'.1 c j m = s.1 c j m) → s'.2 = s.2 → s'.1 1 a 0 = s.1 1 b 0 → s'.1 1 a 1 = s.1 1 b 1 → s'.1 5 a 1 = s.1 5 b 1 → Q none s') : wpM L xs codT retT (f + 2) m_X5_copyFrom [.inr (5, a), .inr (5, b)] s Q := by
  have h := h (putV (putV (putV s 1 a 0 (s.1 1 b 0)) 1 a 1 (s.1 1 b 1)) 5 a 1 (s.1 5 b 1)) (fun c j m h1 h2 => by simp (disch := omega) only [putV_ne]) rfl (by simp (disch := omega) only [putV_ne, putV_at]) (by simp (disch := omega) only [putV_ne, putV_at]) (by simp (disch := omega) only [putV_at])
  have e : (putV (putV s 1 a 0 (s.1 1 b 0)) 1 a 1 (s.1 1 b 1)).1 5 b 1 = s.1 5 b 1 := by simp (disch := omega) only [putV_ne]
  intro call hcall X hX; refine hX 1000 0 _ _ _ ?_
  repeat' (first | (intro hc) | (refine And.intro ?_ ?_) | (exact absurd nI_0 ‹cmpF 0 (nI 0) 0›) | (exact absurd ‹cmpT 0 (nI 1) 0› nI1_ne) | (exact absurd nI_0 ‹cmpT 1 (nI 0) 0›) | (exact absurd ‹cmpF 1 (nI 1) 0› nI1_ne) | (show wp _ _ _ _ _ _ _ _ _ _ _ _; conv => whnf) | (simp (disch := omega) only [nI_add, nI_mul, setN_now, setN_put, nI_cl, Nat.add_zero]) | (refine hcall _ _ _ _ ?_; first | (refine c_blockCopy ?_) | fail))
  rw [e]
  exact h
set_option maxHeartbeats 4000000 in
set_option maxRecDepth 100000 in
theorem c_siteCopy {a : Nat} (ha : a < 80) (hb : b < 80) (h : ∀ s', (∀ c j m, ownS c j ≠ a → s'.1 c j m = s.1 c j m) → s'.2 = s.2 → s'.1 1 (80 + a) 0 = s.1 1 (80 + b) 0 → s'.1 1 (80 + a) 1 = s.1 1 (80 + b) 1 → (∀ m, m < 9 → s'.1 15 a m = s.1 15 b m) → s'.1 6 a 2 = s.1 6 b 2 → s'.1 6 a 3 = s.1 6 b 3 → s'.1 6 a 4 = s.1 6 b 4 → Q none s') : wpM L xs codT retT (f + 2) m_X6_copyFrom [.inr (6, a), .inr (6, b)] s Q := by
  have oS1 : ownS 1 (80 + a) = a := by
    show (if 80 + a < 80 then 999 else if 80 + a < 160 then 80 + a - 80 else 999) = a
    rw [if_neg (by omega), if_pos (by omega)]; omega
  have oS15 : ownS 15 a = a := if_pos ha
  have e : ∀ m, (cpC (putV (putV s 1 (80 + a) 0 (s.1 1 (80 + b) 0)) 1 (80 + a) 1 (s.1 1 (80 + b) 1)) a b 9).1 6 b m = s.1 6 b m := fun m => by
    rw [cpC_o (by omega)]
    simp (disch := omega) only [putV_ne]
  have e3 : (putV (cpC (putV (putV s 1 (80 + a) 0 (s.1 1 (80 + b) 0)) 1 (80 + a) 1 (s.1 1 (80 + b) 1)) a b 9) 6 a 2 (s.1 6 b 2)).1 6 b 3 = s.1 6 b 3 := by rw [putV_ne (by omega), e]
  have e4 : (putV (putV (cpC (putV (putV s 1 (80 + a) 0 (s.1 1 (80 + b) 0)) 1 (80 + a) 1 (s.1 1 (80 + b) 1)) a b 9) 6 a 2 (s.1 6 b 2)) 6 a 3 (s.1 6 b 3)).1 6 b 4 = s.1 6 b 4 := by rw [putV_ne (by omega), putV_ne (by omega), e]
  have h := h (putV (putV (putV (cpC (putV (putV s 1 (80 + a) 0 (s.1 1 (80 + b) 0)) 1 (80 + a) 1 (s.1 1 (80 + b) 1)) a b 9) 6 a 2 (s.1 6 b 2)) 6 a 3 (s.1 6 b 3)) 6 a 4 (s.1 6 b 4)) (fun c j m hc => by
      refine site_put (site_put (site_put (fun c j m hc => ?_) rfl) rfl) rfl c j m hc
      rw [cpC_o (fun q => hc (by obtain ⟨q1, q2⟩ := q; rw [q1, q2]; exact oS15))]
      exact site_put (site_put site_0 oS1) oS1 c j m hc) rfl (by
      simp (disch := omega) only [putV_ne]
      rw [cpC_o (by omega)]
      simp (disch := omega) only [putV_ne, putV_at]) (by
      simp (disch := omega) only [putV_ne]
      rw [cpC_o (by omega)]
      simp (disch := omega) only [putV_at]) (fun m hm => by
      simp (disch := omega) only [putV_ne]
      rw [cpC_in hm]
      simp (disch := omega) only [putV_ne]) (by simp (disch := omega) only [putV_ne, putV_at]) (by simp (disch := omega) only [putV_ne, putV_at]) (by simp (disch := omega) only [putV_at])
  intro call hcall X hX; refine hX 1000 0 _ _ _ ?_
  repeat' (first | (intro hc) | (refine And.intro ?_ ?_) | (exact absurd nI_0 ‹cmpF 0 (nI 0) 0›) | (exact absurd ‹cmpT 0 (nI 1) 0› nI1_ne) | (exact absurd nI_0 ‹cmpT 1 (nI 0) 0›) | (exact absurd ‹cmpF 1 (nI 1) 0› nI1_ne) | (show wp _ _ _ _ _ _ _ _ _ _ _ _; conv => whnf) | (rw [e]) | (rw [e3]) | (rw [e4]) | (simp (disch := omega) only [nI_add, nI_mul, setN_now, setN_put, nI_cl, Nat.add_zero]) | (refine hcall _ _ _ _ ?_; first | (refine c_blockCopy ?_) | (refine c_slotsCopy ?_) | fail))
  all_goals first
    | exact h
    | (rw [e4]; exact h)
set_option maxHeartbeats 4000000 in
set_option maxRecDepth 100000 in
theorem c_mapCopy {y1 y2 : Nat} (hb : s.1 2 y2 5 = 0 ∨ s.1 2 y2 5 = 1) (h : ∀ s', (∀ c j' m, ¬ (c = 1 ∧ j' = 160 + y1) → ¬ (c = 15 ∧ j' = 80 + y1) → ¬ (c = 2 ∧ j' = y1) → s'.1 c j' m = s.1 c j' m) → s'.2 = s.2 → s'.1 1 (160 + y1) 0 = s.1 1 (160 + y2) 0 → s'.1 1 (160 + y1) 1 = s.1 1 (160 + y2) 1 → (∀ m, m < 9 → s'.1 15 (80 + y1) m = s.1 15 (80 + y2) m) → s'.1 2 y1 2 = s.1 2 y2 2 → s'.1 2 y1 3 = s.1 2 y2 3 → s'.1 2 y1 4 = s.1 2 y2 4 → s'.1 2 y1 5 = s.1 2 y2 5 → Q none s') : wpM L xs codT retT (f + 2) m_X2_copyFrom [.inr (2, y1), .inr (2, y2)] s Q := by
  have e2 : ∀ m, (cpC (putV (putV s 1 (160 + y1) 0 (s.1 1 (160 + y2) 0)) 1 (160 + y1) 1 (s.1 1 (160 + y2) 1)) (80 + y1) (80 + y2) 9).1 2 y2 m = s.1 2 y2 m := fun m => by
    rw [cpC_o (by omega)]
    simp (disch := omega) only [putV_ne]
  have e3 : ∀ x, (putV (cpC (putV (putV s 1 (160 + y1) 0 (s.1 1 (160 + y2) 0)) 1 (160 + y1) 1 (s.1 1 (160 + y2) 1)) (80 + y1) (80 + y2) 9) 2 y1 2 x).1 2 y2 3 = s.1 2 y2 3 := fun x => by rw [putV_ne (by omega), e2]
  have e4 : ∀ x x', (putV (putV (cpC (putV (putV s 1 (160 + y1) 0 (s.1 1 (160 + y2) 0)) 1 (160 + y1) 1 (s.1 1 (160 + y2) 1)) (80 + y1) (80 + y2) 9) 2 y1 2 x) 2 y1 3 x').1 2 y2 4 = s.1 2 y2 4 := fun x x' => by rw [putV_ne (by omega), putV_ne (by omega), e2]
  have e5 : ∀ x x' x'', (putV (putV (putV (cpC (putV (putV s 1 (160 + y1) 0 (s.1 1 (160 + y2) 0)) 1 (160 + y1) 1 (s.1 1 (160 + y2) 1)) (80 + y1) (80 + y2) 9) 2 y1 2 x) 2 y1 3 x') 2 y1 4 x'').1 2 y2 5 = s.1 2 y2 5 := fun x x' x'' => by rw [putV_ne (by omega), putV_ne (by omega), putV_ne (by omega), e2]
  have h := h (putV (putV (putV (putV (cpC (putV (putV s 1 (160 + y1) 0 (s.1 1 (160 + y2) 0)) 1 (160 + y1) 1 (s.1 1 (160 + y2) 1)) (80 + y1) (80 + y2) 9) 2 y1 2 (s.1 2 y2 2)) 2 y1 3 (s.1 2 y2 3)) 2 y1 4 (s.1 2 y2 4)) 2 y1 5 (s.1 2 y2 5)) (fun c j' m h1 h2 h3 => by
      simp (disch := omega) only [putV_ne]
      rw [cpC_o h2]
      simp (disch := omega) only [putV_ne]) rfl (by
      simp (disch := omega) only [putV_ne]
      rw [cpC_o (by omega)]
      simp (disch := omega) only [putV_ne, putV_at]) (by
      simp (disch := omega) only [putV_ne]
      rw [cpC_o (by omega)]
      simp (disch := omega) only [putV_at]) (fun m hm => by
      simp (disch := omega) only [putV_ne]
      rw [cpC_in hm]
      simp (disch := omega) only [putV_ne]) (by simp (disch := omega) only [putV_ne, putV_at]) (by simp (disch := omega) only [putV_ne, putV_at]) (by simp (disch := omega) only [putV_ne, putV_at]) (by simp (disch := omega) only [putV_at])
  intro call hcall X hX; refine hX 1000 0 _ _ _ ?_
  repeat' (first | (intro hc) | (refine And.intro ?_ ?_) | (exact absurd nI_0 ‹cmpF 0 (nI 0) 0›) | (exact absurd ‹cmpT 0 (nI 1) 0› nI1_ne) | (exact absurd nI_0 ‹cmpT 1 (nI 0) 0›) | (exact absurd ‹cmpF 1 (nI 1) 0› nI1_ne) | (show wp _ _ _ _ _ _ _ _ _ _ _ _; conv => whnf) | (rw [e2]) | (rw [e3]) | (rw [e4]) | (rw [e5]) | (simp (disch := omega) only [nI_add, nI_mul, setN_now, setN_put, nI_cl, Nat.add_zero]) | (refine hcall _ _ _ _ ?_; first | (refine c_blockCopy ?_) | (refine c_slotsCopy ?_) | fail))
  all_goals first
    | exact h
    | exact hb
    | (rw [e5]; exact h)
    | (rw [e5]; exact hb)
set_option maxHeartbeats 4000000 in
set_option maxRecDepth 100000 in
theorem c_routerCopy (hw : WFrouter F r) (hp : permOk s) (hi : i < 40) (hi2 : i2 < 40) (hne : i ≠ i2) (q : repRouter s i2 F r) (h : ∀ s', (∀ c j m, ownR c j ≠ i → s'.1 c j m = s.1 c j m) → s'.2 = s.2 → repRouter s' i F r → Q none s') : wpM L xs codT retT (f + 3) m_X4_copyFrom [.inr (4, i), .inr (4, i2)] s Q := by
  have w5 := hw.2.1
  have e0 : s.1 4 i2 1 = nI (cM F r) := q.1.trans hw.1
  have rng := (hp i hi).1
  have inj := (hp i hi).2
  have rng2 := (hp i2 hi2).1
  intro call hcall X hX; refine hX 1000 0 _ _ _ ?_
  repeat' (first | (intro hc) | (refine And.intro ?_ ?_) | (exact absurd nI_0 ‹cmpF 0 (nI 0) 0›) | (exact absurd ‹cmpT 0 (nI 1) 0› nI1_ne) | (exact absurd nI_0 ‹cmpT 1 (nI 0) 0›) | (exact absurd ‹cmpF 1 (nI 1) 0› nI1_ne) | (show wp _ _ _ _ _ _ _ _ _ _ _ _; conv => whnf))
  simp only [takeL, setL]
  have loop : ∀ j, j ≤ cM F r → ∀ s', (∀ c j m, ownR c j ≠ i → s'.1 c j m = s.1 c j m) → s'.2 = s.2 → s'.1 4 i 1 = nI (cM F r) → (∀ p, p < j → repMap s' (s.2 i p) F r p) → X 10 [.inr (4, i), .inr (4, i2), .inl (nI j)] [] s' := by
    refine loopD (cM F r) (fun j hj ih s' o1 o2 o3 o4 => ?_) (fun s' o1 o2 o3 o4 => ?_)
    · clear h
      have e2 : ∀ a b, s'.2 a b = s.2 a b := fun a b => by rw [o2]
      have y1 := rng j (by omega)
      have y2 := rng2 j (by omega)
      have wm := hw.2.2.1 j hj
      have hm := q.2.2.2.2.2.2 j hj
      have sm : repMap s' (s.2 i2 j) F r j := repMap_s (i := i2) (fun c j k hc => o1 c j k (by omega)) (by omega) hm
      have hb : s'.1 2 (s.2 i2 j) 5 = 0 ∨ s'.1 2 (s.2 i2 j) 5 = 1 := by
        rcases wm.2.2.1 with g | g
        · exact Or.inl (sm.2.2.2.1.trans (g.trans nI_0))
        · exact Or.inr (sm.2.2.2.1.trans g)
      refine hX 1000 10 _ _ _ ?_
      repeat' (first | (intro hc) | (refine And.intro ?_ ?_) | (exact absurd nI_0 ‹cmpF 0 (nI 0) 0›) | (exact absurd ‹cmpT 0 (nI 1) 0› nI1_ne) | (exact absurd nI_0 ‹cmpT 1 (nI 0) 0›) | (exact absurd ‹cmpF 1 (nI 1) 0› nI1_ne) | (show wp _ _ _ _ _ _ _ _ _ _ _ _; conv => whnf) | (rw [o2]) | (rw [o3]) | (simp (disch := omega) only [nI_cl]) | (simp (disch := omega) only [nI_add, nI_mul, setN_now, setN_put, nI_cl, Nat.add_zero]) | (refine hcall _ _ _ _ ?_; first | (refine c_mapCopy hb (fun s3 g1 g2 b0 b1 b15 m2 m3 m4 m5 => ?_)) | fail))
      all_goals (try (simp (disch := omega) only [nI_toI, nI_cl, nI_add, nI_mul, alen11, alen12, alen13, alen14, alen15, alen16, alen17, alen18, alen19]; omega))
      all_goals (try (exfalso; clear ih o1 hb; (try clear hX hcall); (try clear h); (try simp (disch := omega) only [cmpT, cmpF, bI_eq0, bI_ne0, Classical.not_not, nI_toI, nI_cl, nI_inj, nI_add, nI_mul, nI_subI, takeL, setL, Int32.toInt_zero, Nat.add_zero, setN_now, alen20, alen11, alen12, alen13, alen14, alen15, alen16, alen17, alen18, alen19, (id o3)] at *); omega))
      simp only [takeL, setL, nI_add, pushW]
      refine ih s3 (fun c a k hc => (g1 c a k (fun g => hc (by obtain ⟨t1, t2⟩ := g; rw [t1, t2, ownR_1]; omega)) (fun g => hc (by obtain ⟨t1, t2⟩ := g; rw [t1, t2, ownR_15]; omega)) (fun g => hc (by obtain ⟨t1, t2⟩ := g; rw [t1, t2]; show s.2 i j / 5 = i; omega))).trans (o1 c a k hc)) (g2.trans o2) ((g1 4 i 1 (by omega) (by omega) (by omega)).trans o3) (fun p hp' => ?_)
      by_cases e : p = j
      · subst e
        unfold repMap at sm ⊢
        rw [m2, m3, m4, m5, b0, b1]
        exact ⟨sm.1, sm.2.1, sm.2.2.1, sm.2.2.2.1, sm.2.2.2.2.1, sm.2.2.2.2.2.1, cellsRep_cg2 b15 (fun _ _ => rfl) sm.2.2.2.2.2.2⟩
      · have hp2 := o4 p (by omega)
        have ne : s.2 i p ≠ s.2 i j := fun g => e (inj p j (by omega) (by omega) g)
        unfold repMap at hp2 ⊢
        have t2 : ∀ k, s3.1 2 (s.2 i p) k = s'.1 2 (s.2 i p) k := fun k => g1 2 _ k (by omega) (by omega) (by omega)
        have t1 : ∀ k, s3.1 1 (160 + s.2 i p) k = s'.1 1 (160 + s.2 i p) k := fun k => g1 1 _ k (by omega) (by omega) (by omega)
        have t15 : ∀ k, s3.1 15 (80 + s.2 i p) k = s'.1 15 (80 + s.2 i p) k := fun k => g1 15 _ k (by omega) (by omega) (by omega)
        rw [t2, t2, t2, t2, t1, t1]
        exact ⟨hp2.1, hp2.2.1, hp2.2.2.1, hp2.2.2.2.1, hp2.2.2.2.2.1, hp2.2.2.2.2.2.1, cellsRep_cg t15 hp2.2.2.2.2.2.2⟩
    · have rd : ∀ k, s'.1 4 i2 k = s.1 4 i2 k := fun k => o1 4 i2 k (by show i2 ≠ i; omega)
      have d3 : ∀ x, (putV s' 4 i 2 x).1 4 i2 3 = s.1 4 i2 3 := fun x => by rw [putV_ne (by omega), rd]
      have d4 : ∀ x x', (putV (putV s' 4 i 2 x) 4 i 3 x').1 4 i2 4 = s.1 4 i2 4 := fun x x' => by rw [putV_ne (by omega), putV_ne (by omega), rd]
      have d5 : ∀ x x' x'', (putV (putV (putV s' 4 i 2 x) 4 i 3 x') 4 i 4 x'').1 4 i2 5 = s.1 4 i2 5 := fun x x' x'' => by rw [putV_ne (by omega), putV_ne (by omega), putV_ne (by omega), rd]
      have d6 : ∀ x x' x'' x3, (putV (putV (putV (putV s' 4 i 2 x) 4 i 3 x') 4 i 4 x'') 4 i 5 x3).1 4 i2 6 = s.1 4 i2 6 := fun x x' x'' x3 => by rw [putV_ne (by omega), putV_ne (by omega), putV_ne (by omega), putV_ne (by omega), rd]
      have hf := h (putV (putV (putV (putV (putV s' 4 i 2 (s.1 4 i2 2)) 4 i 3 (s.1 4 i2 3)) 4 i 4 (s.1 4 i2 4)) 4 i 5 (s.1 4 i2 5)) 4 i 6 (s.1 4 i2 6)) (fun c a k hc => by
        have ne4 : c ≠ 4 ∨ a ≠ i := by
          by_cases e1 : c = 4
          · right; intro e2; apply hc; rw [e1, e2]; rfl
          · exact Or.inl e1
        rw [putV_ne (by omega), putV_ne (by omega), putV_ne (by omega), putV_ne (by omega), putV_ne (by omega)]
        exact o1 c a k hc) o2 ⟨by simp (disch := omega) only [putV_ne]; exact o3.trans hw.1.symm, by simp (disch := omega) only [putV_ne, putV_at]; exact q.2.1, by simp (disch := omega) only [putV_ne, putV_at]; exact q.2.2.1, by simp (disch := omega) only [putV_ne, putV_at]; exact q.2.2.2.1, by simp (disch := omega) only [putV_ne, putV_at]; exact q.2.2.2.2.1, by simp (disch := omega) only [putV_at]; exact q.2.2.2.2.2.1, fun p hp' => by
        show repMap _ (s'.2 i p) F r p
        rw [o2]
        exact repMap_t (s := s') (fun c a k hc => by simp (disch := omega) only [putV_ne]) (o4 p hp')⟩
      clear h
      refine hX 1000 10 _ _ _ ?_
      repeat' (first | (intro hc) | (refine And.intro ?_ ?_) | (exact absurd nI_0 ‹cmpF 0 (nI 0) 0›) | (exact absurd ‹cmpT 0 (nI 1) 0› nI1_ne) | (exact absurd nI_0 ‹cmpT 1 (nI 0) 0›) | (exact absurd ‹cmpF 1 (nI 1) 0› nI1_ne) | (show wp _ _ _ _ _ _ _ _ _ _ _ _; conv => whnf) | (rw [rd]) | (rw [d3]) | (rw [d4]) | (rw [d5]) | (rw [d6]))
      all_goals first
        | exact hf
        | (rw [d6]; exact hf)
        | (clear hf; (try clear hX hcall); (try clear h); (try simp (disch := omega) only [cmpT, cmpF, bI_eq0, bI_ne0, Classical.not_not, nI_toI, nI_cl, nI_inj, nI_add, nI_mul, nI_subI, takeL, setL, Int32.toInt_zero, Nat.add_zero, setN_now, alen20, alen11, alen12, alen13, alen14, alen15, alen16, alen17, alen18, alen19, (id o3)] at *); omega)
  have eP : (putV s 4 i 1 (s.1 4 i2 1)).2 = s.2 := rfl
  refine loop 0 (by omega) _ (fun c a k hc => putV_ne (by
    by_cases e1 : c = 4
    · right; left; intro e2; apply hc; rw [e1, e2]; rfl
    · exact Or.inl e1)) eP (by rw [putV_at, e0]) (fun p hp' => absurd hp' (by omega))
end CLS20
