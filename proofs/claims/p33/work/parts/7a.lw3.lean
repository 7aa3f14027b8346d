/-! THE LAW'S CHECKS: looks as the law asks them; areRouters -/
section LW3
variable {L : Nat} {xs : Nat → Int32} {f i n B k r m j p c : Nat} {x y v a b name place : Int32} {s s' : St} {F G : Fm} {Q : Option MV → St → Prop}
theorem g_tot (hw : WF F B) (hR : RepW s 0 F) (hk : k < 11) (h : Q (some (.inl (totW F k))) s) : wpM L xs codT retT (f + 6) m_X9_total [.inr (9, 0), .inl (nI k)] s Q := c_total hw hR (by rw [tot_n k hk]; exact h)
theorem g_cnt (hC : CL s F G n B) (h : Q (some (.inl (nI n))) s) : wpM L xs codT retT (f + 6) m_X9_total [.inr (9, 0), .inl (nI 11)] s Q := c_total hC.2.1.2.1 hC.2.1.1 (by rw [tot_11, hC.cnt]; exact h)
theorem rou_at (h4 : cR F ≤ 4) (hr : r < cR F) (hj : j < 6) : routA F (nI r) (nI j) = F (165 + 6 * r + j) := by
  unfold routA
  rw [if_neg (fun q => q (iN_k hr (by omega))), if_neg (fun q => q (iN_k hj (by omega))), show nn (nI r) = r from nI_cl (by omega), show nn (nI j) = j from nI_cl (by omega)]
theorem g_rou (hw : WF F B) (hR : RepW s 0 F) (hr : r < cR F) (hj : j < 6) (h : Q (some (.inl (F (165 + 6 * r + j)))) s) : wpM L xs codT retT (f + 2) m_X9_router [.inr (9, 0), .inl (nI r), .inl (nI j)] s Q := c_router hw hR (by rw [rou_at hw.r2 hr hj]; exact h)
theorem g_rou0 (hw : WF F B) (hR : RepW s 0 F) (hr : r < cR F) (h : Q (some (.inl (nI (cM F r)))) s) : wpM L xs codT retT (f + 2) m_X9_router [.inr (9, 0), .inl (nI r), .inl (nI 0)] s Q := c_router hw hR (by rw [rou_at hw.r2 hr (by omega), Nat.add_zero, (hw.router hr).1]; exact h)
theorem map_at (hw : WF F B) (hr : r < cR F) (hm : m < cM F r) (hj : j < 4) : mapA F (nI r) (nI m) (nI j) = F (mA r m + j) := by
  have h4 := hw.r2
  have h5 := (hw.router hr).2.1
  unfold mapA
  rw [show nn (nI r) = r from nI_cl (by omega)]
  rw [if_neg (fun q => q ⟨iN_k hr (by omega), iN_k hm (by omega)⟩), if_neg (fun q => q (iN_k (by omega) (by omega))), if_pos (by rw [nI_toI (by omega)]; omega), show nn (nI m) = m from nI_cl (by omega), show nn (nI j) = j from nI_cl (by omega)]
theorem g_map (hw : WF F B) (hR : RepW s 0 F) (hr : r < cR F) (hm : m < cM F r) (hj : j < 4) (h : Q (some (.inl (F (mA r m + j)))) s) : wpM L xs codT retT (f + 3) m_X9_map [.inr (9, 0), .inl (nI r), .inl (nI m), .inl (nI j)] s Q := c_map hw hR (by rw [map_at hw hr hm hj]; exact h)
theorem sit_at (h8 : cT F ≤ 8) (hk : k < cT F) (hj : j < 5) : siteA F (nI k) (nI j) = F (29 + 17 * k + j) := by
  unfold siteA
  rw [if_neg (fun q => q (iN_k hk (by omega))), if_neg (fun q => q (iN_k (by omega) (by omega))), if_pos (by rw [nI_toI (by omega)]; omega), show nn (nI k) = k from nI_cl (by omega), show nn (nI j) = j from nI_cl (by omega)]
theorem g_sit (hw : WF F B) (hR : RepW s 0 F) (e : v = nI k) (hk : k < cT F) (hj : j < 5) (h : Q (some (.inl (F (29 + 17 * k + j)))) s) : wpM L xs codT retT (f + 5) m_X9_site [.inr (9, 0), .inl v, .inl (nI j)] s Q := by
  subst e
  exact c_site hw hR (by rw [sit_at hw.t2 hk hj]; exact h)
theorem g_up (hw : WF F B) (hR : RepW s 0 F) (hk : k < cT F) (h : Q (some (.inl (bI (upF F k)))) s) : wpM L xs codT retT (f + 5) m_X9_site [.inr (9, 0), .inl (nI k), .inl (nI 6)] s Q := by
  have h8 := hw.t2
  refine c_site hw hR ?_
  unfold siteA
  rw [if_neg (fun q => q (iN_k hk (by omega))), if_neg (fun q => q (iN_k (by omega) (by omega))), if_neg (by rw [nI_toI (by omega)]; omega), if_neg (by rw [nI_toI (by omega)]; omega), if_pos (by rw [nI_toI (by omega)]; rfl), show nn (nI k) = k from nI_cl (by omega)]
  exact h
theorem nI_1b : nI 1 = 0 ∨ nI 1 = 1 := Or.inr (by decide +kernel)
theorem nI_0b : nI 0 = 0 ∨ nI 0 = 1 := Or.inl (by decide +kernel)
set_option maxHeartbeats 4000000 in
set_option maxRecDepth 100000 in
theorem l_areRouters (hw : WF F B) (hR : RepW s 0 F) (hB : B < 1000000) (hc : CN F B) (h : Q (some (.inl (nI 1))) s) : wpM L xs codT retT (f + 7) m_L_areRouters [.inr (9, 0)] s Q := by
  have h4 := hw.r2
  have e3 : totW F 3 = nI (cR F) := hw.r1
  have e5 : totW F 5 = sumN F 0 (cR F) := rfl
  intro call hcall X hX; refine hX 1000 0 _ _ _ ?_
  repeat' (first | (intro hc) | (refine And.intro ?_ ?_) | (exact absurd nI_0 ‹cmpF 0 (nI 0) 0›) | (exact absurd ‹cmpT 0 (nI 1) 0› nI1_ne) | (exact absurd nI_0 ‹cmpT 1 (nI 0) 0›) | (exact absurd ‹cmpF 1 (nI 1) 0› nI1_ne) | (show wp _ _ _ _ _ _ _ _ _ _ _ _; conv => whnf))
  simp only [takeL, setL]
  have loop : ∀ k, k ≤ cR F → X 6 [.inr (9, 0), .inl (sumN F 0 k), .inl (nI 1), .inl (nI k)] [] s := by
    refine loopD (cR F) (fun k hk ih => ?_) ?_
    · clear h
      have w := hw.router hk
      have h5 := w.2.1
      obtain ⟨⟨q1, q2, q3, q4, q5, q6, q7, q8⟩, cV⟩ := hc k hk
      unfold ct at q1 q2 q3 q4 q5 q6 q7 q8
      have ih2 : X 6 [.inr (9, 0), .inl (sumN F 0 k + nI (cM F k)), .inl (nI 1), .inl (nI (k + 1))] [] s := by
        have : sumN F 0 (k + 1) = sumN F 0 k + nI (cM F k) := by
          show sumN F 0 k + F (165 + 6 * k + 0) = _
          rw [Nat.add_zero, w.1]
        rw [this] at ih
        exact ih
      clear ih
      have mloop : ∀ m, m ≤ cM F k → X 92 [.inr (9, 0), .inl (sumN F 0 k + nI (cM F k)), .inl (nI 1), .inl (nI k), .inl (nI (cM F k)), .inl (nI m)] [] s := by
        refine loopD (cM F k) (fun m hm ihm => ?_) ?_
        · clear ih2
          have wm := w.2.2.1 m hm
          have hv := cV m hm
          have em : F (mA k m + 0) = nI (nn (F (mA k m))) := by rw [Nat.add_zero]; exact wm.1
          have nloop : ∀ i, i ≤ m → X 102 [.inr (9, 0), .inl (sumN F 0 k + nI (cM F k)), .inl (nI 1), .inl (nI k), .inl (nI (cM F k)), .inl (nI m), .inl (nI i)] [] s := by
            refine loopD m (fun i hi ihn => ?_) ?_
            · clear ihm
              have hne : ¬ F (mA k i + 0) = F (mA k m + 0) := fun e => by
                have := w.2.2.2 i m (by omega) hm e
                omega
              refine hX 1000 102 _ _ _ ?_
              repeat' (first | (intro hc) | (refine And.intro ?_ ?_) | (exact absurd nI_0 ‹cmpF 0 (nI 0) 0›) | (exact absurd ‹cmpT 0 (nI 1) 0› nI1_ne) | (exact absurd nI_0 ‹cmpT 1 (nI 0) 0›) | (exact absurd ‹cmpF 1 (nI 1) 0› nI1_ne) | (show wp _ _ _ _ _ _ _ _ _ _ _ _; conv => whnf) | (simp (disch := omega) only [nI_add, nI_mul, setN_now, setN_put, nI_cl, Nat.add_zero]) | (refine hcall _ _ _ _ ?_; first | (refine g_map hw hR hk (by omega) (by omega) ?_) | fail))
              all_goals first
                | (simp only [takeL, setL, nI_add]; exact ihn)
                | exact absurd (by assumption) hne
                | (clear ihn; (try clear hX hcall); (try clear h); (try simp (disch := omega) only [cmpT, cmpF, bI_eq0, bI_ne0, Classical.not_not, nI_toI, nI_cl, nI_inj, nI_add, nI_mul, nI_subI, takeL, setL, Int32.toInt_zero, Nat.add_zero, setN_now, alen20, alen11, alen12, alen13, alen14, alen15, alen16, alen17, alen18, alen19, (id e3)] at *); omega)
            · refine hX 1000 102 _ _ _ ?_
              repeat' (first | (intro hc) | (refine And.intro ?_ ?_) | (exact absurd nI_0 ‹cmpF 0 (nI 0) 0›) | (exact absurd ‹cmpT 0 (nI 1) 0› nI1_ne) | (exact absurd nI_0 ‹cmpT 1 (nI 0) 0›) | (exact absurd ‹cmpF 1 (nI 1) 0› nI1_ne) | (show wp _ _ _ _ _ _ _ _ _ _ _ _; conv => whnf) | (simp (disch := omega) only [nI_add, nI_mul, setN_now, setN_put, nI_cl, Nat.add_zero]) | (refine hcall _ _ _ _ ?_; first | (refine g_map hw hR hk (by omega) (by omega) ?_) | (refine g_sit hw hR em wm.2.1 (by omega) ?_) | fail))
              all_goals first
                | (simp only [takeL, setL, nI_add]; exact ihm)
                | (clear ihm; (try clear hX hcall); (try clear h); (try simp (disch := omega) only [cmpT, cmpF, bI_eq0, bI_ne0, Classical.not_not, nI_toI, nI_cl, nI_inj, nI_add, nI_mul, nI_subI, takeL, setL, Int32.toInt_zero, Nat.add_zero, setN_now, alen20, alen11, alen12, alen13, alen14, alen15, alen16, alen17, alen18, alen19, (id e3)] at *); omega)
          refine hX 1000 92 _ _ _ ?_
          repeat' (first | (intro hc) | (refine And.intro ?_ ?_) | (exact absurd nI_0 ‹cmpF 0 (nI 0) 0›) | (exact absurd ‹cmpT 0 (nI 1) 0› nI1_ne) | (exact absurd nI_0 ‹cmpT 1 (nI 0) 0›) | (exact absurd ‹cmpF 1 (nI 1) 0› nI1_ne) | (show wp _ _ _ _ _ _ _ _ _ _ _ _; conv => whnf))
          all_goals first
            | (simp only [takeL, setL, nI_add]; exact nloop 0 (by omega))
            | (clear ihm nloop; (try clear hX hcall); (try clear h); (try simp (disch := omega) only [cmpT, cmpF, bI_eq0, bI_ne0, Classical.not_not, nI_toI, nI_cl, nI_inj, nI_add, nI_mul, nI_subI, takeL, setL, Int32.toInt_zero, Nat.add_zero, setN_now, alen20, alen11, alen12, alen13, alen14, alen15, alen16, alen17, alen18, alen19, (id e3)] at *); omega)
        · refine hX 1000 92 _ _ _ ?_
          repeat' (first | (intro hc) | (refine And.intro ?_ ?_) | (exact absurd nI_0 ‹cmpF 0 (nI 0) 0›) | (exact absurd ‹cmpT 0 (nI 1) 0› nI1_ne) | (exact absurd nI_0 ‹cmpT 1 (nI 0) 0›) | (exact absurd ‹cmpF 1 (nI 1) 0› nI1_ne) | (show wp _ _ _ _ _ _ _ _ _ _ _ _; conv => whnf))
          all_goals first
            | (simp only [takeL, setL, nI_add]; exact ih2)
            | (clear ih2; (try clear hX hcall); (try clear h); (try simp (disch := omega) only [cmpT, cmpF, bI_eq0, bI_ne0, Classical.not_not, nI_toI, nI_cl, nI_inj, nI_add, nI_mul, nI_subI, takeL, setL, Int32.toInt_zero, Nat.add_zero, setN_now, alen20, alen11, alen12, alen13, alen14, alen15, alen16, alen17, alen18, alen19, (id e3)] at *); omega)
      refine hX 1000 6 _ _ _ ?_
      repeat' (first | (intro hc) | (refine And.intro ?_ ?_) | (exact absurd nI_0 ‹cmpF 0 (nI 0) 0›) | (exact absurd ‹cmpT 0 (nI 1) 0› nI1_ne) | (exact absurd nI_0 ‹cmpT 1 (nI 0) 0›) | (exact absurd ‹cmpF 1 (nI 1) 0› nI1_ne) | (show wp _ _ _ _ _ _ _ _ _ _ _ _; conv => whnf) | (rw [e3]) | (simp (disch := omega) only [nI_add, nI_mul, setN_now, setN_put, nI_cl, Nat.add_zero]) | (refine hcall _ _ _ _ ?_; first | (refine g_tot hw hR (by omega) ?_) | (refine g_rou0 hw hR hk ?_) | (refine g_rou hw hR hk (by omega) ?_) | fail))
      all_goals first
        | (simp only [takeL, setL, nI_add]; exact mloop 0 (by omega))
        | (clear mloop ih2; (try clear hX hcall); (try clear h); (try simp (disch := omega) only [cmpT, cmpF, bI_eq0, bI_ne0, Classical.not_not, nI_toI, nI_cl, nI_inj, nI_add, nI_mul, nI_subI, takeL, setL, Int32.toInt_zero, Nat.add_zero, setN_now, alen20, alen11, alen12, alen13, alen14, alen15, alen16, alen17, alen18, alen19, (id e3)] at *); omega)
    · refine hX 1000 6 _ _ _ ?_
      repeat' (first | (intro hc) | (refine And.intro ?_ ?_) | (exact absurd nI_0 ‹cmpF 0 (nI 0) 0›) | (exact absurd ‹cmpT 0 (nI 1) 0› nI1_ne) | (exact absurd nI_0 ‹cmpT 1 (nI 0) 0›) | (exact absurd ‹cmpF 1 (nI 1) 0› nI1_ne) | (show wp _ _ _ _ _ _ _ _ _ _ _ _; conv => whnf) | (rw [e3]) | (rw [e5]) | (simp (disch := omega) only [nI_add, nI_mul, setN_now, setN_put, nI_cl, Nat.add_zero]) | (refine hcall _ _ _ _ ?_; first | (refine g_tot hw hR (by omega) ?_) | fail))
      all_goals first
        | exact h
        | exact nI_1b
        | (clear h; (try clear hX hcall); (try clear h); (try simp (disch := omega) only [cmpT, cmpF, bI_eq0, bI_ne0, Classical.not_not, nI_toI, nI_cl, nI_inj, nI_add, nI_mul, nI_subI, takeL, setL, Int32.toInt_zero, Nat.add_zero, setN_now, alen20, alen11, alen12, alen13, alen14, alen15, alen16, alen17, alen18, alen19, (id e3)] at *); omega)
        | exact absurd rfl (by assumption)
  exact loop 0 (by omega)
end LW3
