/-! THE CLASS: a new map in a cache -/
section CLS16
variable {L : Nat} {xs : Nat → Int32} {f i k r p q c j n B b w w' m sd : Nat} {x y v a z l lo v0 v1 name flow place which : Int32} {s s' s2 s3 t : St} {F G C F' u : Fm} {Q : Option MV → St → Prop} {P : Nat → Nat}
theorem purge_none : ∀ n F, (∀ p, p < n → F (mA r p) ≠ nI k) → purgeF r k n F = F
  | 0, F, _ => rfl
  | n + 1, F, h => by
    unfold purgeF
    rw [if_neg (h n (by omega))]
    exact purge_none n F (fun p hp => h p (by omega))
theorem purge_some (hw : WFrouter F r) (hr : r < 4) (hp : p < cM F r) (e : F (mA r p) = nI k) : ∀ n, p < n → n ≤ cM F r → purgeF r k n F = dropsF F r p
  | 0, h, _ => absurd h (by omega)
  | n + 1, h1, h2 => by
    unfold purgeF
    by_cases en : n = p
    · subst en
      rw [if_pos e]
      refine purge_none n _ (fun q hq g => ?_)
      have e5 : dropsF F r n (mA r q) = F (mA r (if n ≤ q then q + 1 else q)) := drops_map (j := 0) hr (by omega) (by omega)
      rw [e5, if_neg (by omega)] at g
      have := hw.2.2.2 q n (by omega) hp (g.trans e.symm)
      omega
    · rw [if_neg (fun g => en (hw.2.2.2 n p (by omega) hp (g.trans e.symm)))]
      exact purge_some hw hr hp e n (by omega) (by omega)
theorem cut_none (h : firN (copP F r (nI k)) (cM F r) 0 = none) : cutF F r k = if cM F r = 5 then dropsF F r 4 else F := by
  have e : purgeF r k (cM F r) F = F := purge_none _ _ (fun p hp g => firN_none _ _ h p (by omega) (by omega) (decide_eq_true g))
  unfold cutF
  rw [e]
theorem cut_some (hw : WFrouter F r) (hr : r < 4) (h : firN (copP F r (nI k)) (cM F r) 0 = some p) : cutF F r k = dropsF F r p ∧ p < cM F r := by
  obtain ⟨h1, h2, h3⟩ := firN_some _ _ h
  have h4 : F (mA r p) = nI k := of_decide_eq_true h3
  have e : purgeF r k (cM F r) F = dropsF F r p := purge_some hw hr (by omega) h4 _ (by omega) (Nat.le_refl _)
  have w5 := hw.2.1
  have d := drops_c (p := p) hw (by omega)
  unfold cutF
  rw [e, if_neg (by omega)]
  exact ⟨rfl, by omega⟩
set_option maxHeartbeats 4000000 in
set_option maxRecDepth 100000 in
theorem c_dropR (hw : WFrouter F r) (hr : r < 4) (ht : cT F ≤ 8) (hi : i < 40) (hp : permOk s) (q : repRouter s i F r) (hpl : p < cM F r) (h : ∀ s', Rupd s s' i → permOk s' → repRouter s' i (dropsF F r p) r → Q none s') : wpM L xs codT retT (f + 2) m_X4_drop [.inr (4, i), .inl (nI p)] s Q :=
  c_drop (q.1.trans hw.1) hw.2.1 hpl (h _ Rupd_drop (permOk_put (perm_drop hp hi hw.2.1 hpl)) (rep_drop hw hr ht q hpl))
set_option maxHeartbeats 4000000 in
set_option maxRecDepth 100000 in
theorem c_frontR (hw : WFrouter F r) (hr : r < 4) (ht : cT F ≤ 8) (hi : i < 40) (hp : permOk s) (q : repRouter s i F r) (hpl : p < cM F r) (h : ∀ s', Rupd s s' i → permOk s' → repRouter s' i (usesF F r p) r → Q none s') : wpM L xs codT retT (f + 2) m_X4_moveToFront [.inr (4, i), .inl (nI p)] s Q :=
  c_front (q.1.trans hw.1) hw.2.1 hpl (h _ Rupd_front (perm_front hp hi (by have := hw.2.1; omega)) (rep_front hw hr ht q hpl))
set_option maxHeartbeats 4000000 in
set_option maxRecDepth 100000 in
theorem rep_new (hw : WF F B) (hr : r < cR F) (hk : k < cT F) (h10 : w < 10) (hR : RepW s w F) (u2 : Rupd s s2 (4 * w + r)) (p2 : permOk s2) (q2 : repRouter s2 (4 * w + r) (cutF F r k) r) (o1 : ∀ c j' m, ¬ (c = 1 ∧ j' = 160 + s2.2 (4 * w + r) (cM (cutF F r k) r)) → ¬ (c = 15 ∧ j' = 80 + s2.2 (4 * w + r) (cM (cutF F r k) r)) → ¬ (c = 2 ∧ j' = s2.2 (4 * w + r) (cM (cutF F r k) r)) → s3.1 c j' m = s2.1 c j' m) (o2 : s3.2 = s2.2) (b0 : s3.1 1 (160 + s2.2 (4 * w + r) (cM (cutF F r k) r)) 0 = s2.1 1 (80 + (8 * w + k)) 0) (b1 : s3.1 1 (160 + s2.2 (4 * w + r) (cM (cutF F r k) r)) 1 = s2.1 1 (80 + (8 * w + k)) 1) (b15 : ∀ m, m < 9 → s3.1 15 (80 + s2.2 (4 * w + r) (cM (cutF F r k) r)) m = s2.1 15 (8 * w + k) m) (m2 : s3.1 2 (s2.2 (4 * w + r) (cM (cutF F r k) r)) 2 = nI k) (m3 : s3.1 2 (s2.2 (4 * w + r) (cM (cutF F r k) r)) 3 = s2.1 6 (8 * w + k) 3) (m4 : s3.1 2 (s2.2 (4 * w + r) (cM (cutF F r k) r)) 4 = F 0 + F 4) (m5 : s3.1 2 (s2.2 (4 * w + r) (cM (cutF F r k) r)) 5 = nI 0) : (∀ c j m, ownR c j ≠ 4 * w + r → (setP (putV s3 4 (4 * w + r) 1 (nI (cM (cutF F r k) r + 1))) (4 * w + r) (frontP (s3.2 (4 * w + r)) (cM (cutF F r k) r))).1 c j m = s.1 c j m) ∧ (∀ i j, i ≠ 4 * w + r → (setP (putV s3 4 (4 * w + r) 1 (nI (cM (cutF F r k) r + 1))) (4 * w + r) (frontP (s3.2 (4 * w + r)) (cM (cutF F r k) r))).2 i j = s.2 i j) ∧ permOk (setP (putV s3 4 (4 * w + r) 1 (nI (cM (cutF F r k) r + 1))) (4 * w + r) (frontP (s3.2 (4 * w + r)) (cM (cutF F r k) r))) ∧ repRouter (setP (putV s3 4 (4 * w + r) 1 (nI (cM (cutF F r k) r + 1))) (4 * w + r) (frontP (s3.2 (4 * w + r)) (cM (cutF F r k) r))) (4 * w + r) (newF F r k) r := by
  have r2 := hw.r2
  have t2 := hw.t2
  have ev : ∀ j, s3.1 4 (4 * w + r) j = s2.1 4 (4 * w + r) j := fun j => o1 4 _ j (by omega) (by omega) (by omega)
  obtain ⟨g1, g2, g3, g4⟩ := cut_ok (k := k) hw hr
  have gR : r < cR (cutF F r k) := by unfold cR; rw [g3 3 (by omega)]; exact hr
  have wC := g1.router gR
  obtain ⟨nc1, nc2⟩ := new_cM (k := k) hw hr
  have wN := (WF_new hw hr hk).router (show r < cR (newF F r k) by unfold cR; rw [new_lo hw hr (by omega)]; exact hr)
  have m0 := mA_eq r 0
  have m5' := mA_eq r 5
  have i40 : 4 * w + r < 40 := by omega
  have rng := (p2 (4 * w + r) i40).1
  have inj := (p2 (4 * w + r) i40).2
  have hy := rng (cM (cutF F r k) r) (by omega)
  have hC : cT (cutF F r k) = cT F := by unfold cT; rw [g3 2 (by omega)]
  generalize hn : cM (cutF F r k) r = n at *
  generalize hyy : s2.2 (4 * w + r) n = y at *
  have oR1 := ownR_1 (y := y)
  have oR15 := ownR_15 (y := y)
  obtain ⟨r0, r1, -, r3, -, rc⟩ := hR.site hk
  have os : ∀ c j m, c ≠ 4 → s2.1 c j m = s.1 c j m := fun c j m hc => u2.1 c j m (fun g => hc g.1)
  refine ⟨fun c j m hc => ?_, fun i j hi => ?_, ?_, ?_⟩
  · rw [setP_1, putV_ne (by
      by_cases e1 : c = 4
      · right; left; intro e2; subst e1; subst e2; exact hc rfl
      · exact Or.inl e1), o1 c j m (fun g => hc (by obtain ⟨e1, e2⟩ := g; rw [e1, e2]; omega)) (fun g => hc (by obtain ⟨e1, e2⟩ := g; rw [e1, e2]; omega)) (fun g => hc (by obtain ⟨e1, e2⟩ := g; rw [e1, e2]; show y / 5 = _; omega))]
    exact u2.1 c j m (fun g => hc (by obtain ⟨e1, e2⟩ := g; rw [e1, e2]; rfl))
  · rw [setP_o hi]
    show s3.2 i j = _
    rw [o2]
    exact u2.2 i j hi
  · exact perm_front (s := putV s3 4 (4 * w + r) 1 (nI (n + 1))) (permOk_of (fun i j => by show s3.2 i j = s2.2 i j; rw [o2]) p2) i40 (by omega)
  · have fo : ∀ j, 0 < j → j < 6 → newF F r k (165 + 6 * r + j) = cutF F r k (165 + 6 * r + j) := fun j h1 h2 => by
      rw [newF_eq]; exact fr_o (by omega) (by omega) (by omega)
    have st : ∀ c j m, c ≠ 4 → (setP (putV s3 4 (4 * w + r) 1 (nI (n + 1))) (4 * w + r) (frontP (s3.2 (4 * w + r)) n)).1 c j m = s3.1 c j m := fun c j m hc => by rw [setP_1, putV_ne (Or.inl hc)]
    refine ⟨?_, ?_, ?_, ?_, ?_, ?_, fun q hq => ?_⟩
    · rw [setP_1, putV_at, nc2]
    · rw [setP_1, putV_ne (by omega), fo 1 (by omega) (by omega), ev]; exact q2.2.1
    · rw [setP_1, putV_ne (by omega), fo 2 (by omega) (by omega), ev]; exact q2.2.2.1
    · rw [setP_1, putV_ne (by omega), fo 3 (by omega) (by omega), ev]; exact q2.2.2.2.1
    · rw [setP_1, putV_ne (by omega), fo 4 (by omega) (by omega), ev]; exact q2.2.2.2.2.1
    · rw [setP_1, putV_ne (by omega), fo 5 (by omega) (by omega), ev]; exact q2.2.2.2.2.2.1
    · rw [nc1] at hq
      have en0 : ∀ j, j < 16 → newF F r k (mA r 0 + j) = newM (cutF F r k) k j := fun j hj => by rw [newF_eq]; exact fr_0 (by omega) (by omega) hj
      by_cases hq0 : q = 0
      · subst hq0
        have eP : (setP (putV s3 4 (4 * w + r) 1 (nI (n + 1))) (4 * w + r) (frontP (s3.2 (4 * w + r)) n)).2 (4 * w + r) 0 = y := by
          rw [setP_at]
          unfold frontP
          rw [if_pos rfl, o2, hyy]
        rw [eP]
        have en00 : newF F r k (mA r 0) = nI k := by rw [show mA r 0 = mA r 0 + 0 from rfl, en0 0 (by omega)]; rfl
        have enk : nn (newF F r k (mA r 0)) = k := by rw [en00]; exact nI_cl (by omega)
        unfold repMap
        rw [enk, st 2 y _ (by decide), st 2 y _ (by decide), st 2 y _ (by decide), st 2 y _ (by decide), st 1 _ _ (by decide), st 1 _ _ (by decide)]
        refine ⟨m2.trans en00.symm, ?_, ?_, ?_, ?_, ?_, ?_⟩
        · rw [m3, os 6 _ _ (by decide), r3, en0 1 (by omega)]
          unfold newM
          rw [if_neg (by omega), if_pos rfl, g3 _ (by omega)]
        · rw [m4, en0 2 (by omega)]
          unfold newM
          rw [if_neg (by omega), if_neg (by omega), if_pos rfl, g3 _ (by omega), g3 _ (by omega)]
        · rw [m5, en0 3 (by omega)]
          rfl
        · rw [b0, os 1 _ _ (by decide), r0, new_lo hw hr (by omega)]
        · rw [b1, os 1 _ _ (by decide), r1, new_lo hw hr (by omega)]
        · refine cellsRep_cg2 (s := s) (m := 8 * w + k) (b := 29 + 17 * k + 5) (fun j hj => ?_) (fun j hj => ?_) rc
          · rw [st 15 _ _ (by decide), b15 j hj, os 15 _ _ (by decide)]
          · rw [show mA r 0 + 4 + j = mA r 0 + (4 + j) by omega, en0 (4 + j) (by omega)]
            unfold newM
            rw [if_neg (by omega), if_neg (by omega), if_neg (by omega), if_neg (by omega), g3 _ (by omega), show 4 + j - 4 = j by omega]
      · have eP : (setP (putV s3 4 (4 * w + r) 1 (nI (n + 1))) (4 * w + r) (frontP (s3.2 (4 * w + r)) n)).2 (4 * w + r) q = s2.2 (4 * w + r) (q - 1) := by
          rw [setP_at]
          unfold frontP
          rw [if_neg hq0, if_pos (by omega), o2]
        rw [eP]
        have hq1 : q - 1 < n := by omega
        have ne : s2.2 (4 * w + r) (q - 1) ≠ y := fun g => by
          have := inj (q - 1) n (by omega) (by omega) (g.trans hyy.symm)
          omega
        have hrm := q2.2.2.2.2.2.2 (q - 1) (by omega)
        have hrm3 : repMap s3 (s2.2 (4 * w + r) (q - 1)) (cutF F r k) r (q - 1) := by
          unfold repMap at hrm ⊢
          have t2' : ∀ j, s3.1 2 (s2.2 (4 * w + r) (q - 1)) j = s2.1 2 (s2.2 (4 * w + r) (q - 1)) j := fun j => o1 2 _ j (by omega) (by omega) (by omega)
          have t1 : ∀ j, s3.1 1 (160 + s2.2 (4 * w + r) (q - 1)) j = s2.1 1 (160 + s2.2 (4 * w + r) (q - 1)) j := fun j => o1 1 _ j (by omega) (by omega) (by omega)
          have t15 : ∀ j, s3.1 15 (80 + s2.2 (4 * w + r) (q - 1)) j = s2.1 15 (80 + s2.2 (4 * w + r) (q - 1)) j := fun j => o1 15 _ j (by omega) (by omega) (by omega)
          rw [t2', t2', t2', t2', t1, t1]
          exact ⟨hrm.1, hrm.2.1, hrm.2.2.1, hrm.2.2.2.1, hrm.2.2.2.2.1, hrm.2.2.2.2.2.1, cellsRep_cg t15 hrm.2.2.2.2.2.2⟩
        refine repMap_t (s := s3) st (repMap_F (wC.2.2.1 (q - 1) (by omega)).2.1 (fun j hj => ?_) (fun t ht => ?_) hrm3)
        · rw [newF_eq]; exact fr_m (by omega) (by omega) (by omega) hj
        · rw [hC] at ht
          exact ⟨(new_lo hw hr (by omega)).trans (g3 _ (by omega)).symm, (new_lo hw hr (by omega)).trans (g3 _ (by omega)).symm⟩
end CLS16
