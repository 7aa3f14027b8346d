/-! THE LAW'S CHECKS WITH VIEWS: isSaved, isSent -/
theorem sub_add (x y : Int32) : x + y - x = y := by rw [Int32.add_comm, Int32.add_sub_cancel]
section LW7
variable {L : Nat} {xs : Nat → Int32} {f i n B k r m j p c l d : Nat} {x y a b w v name flow place : Int32} {s s' : St} {F F1 F2 G : Fm} {o : Int32 × Fm} {Q : Option MV → St → Prop} {QL : Option LV → St → Prop}
theorem g_saveS (hI : IV s F G n B) (hj : j < 2) (e : v = nI j) (h : ∀ s', s'.1 18 0 j = nI 1 → (∀ k, k < 509 → rowG (keepG G F (5 + j)) (5 + j) k = F k) → IV s' F (keepG G F (5 + j)) n B → Q (some (.inl (F 0))) s') : wpM L xs codT retT (f + 5) m_X9_save [.inr (9, 0), .inl v] s Q := g_saveI hI hj e (fun s' h1 h2 => h s' h1 (fun k hk => by rw [keep_row hk, if_pos rfl]) h2)
theorem l_turnS (hI : IV s F1 G n B) (hB : 1 ≤ B) (hB2 : B < 1000000) (e : w = nI k) (hk : k < 16) (hj : j < 2) (hs : s.1 18 0 j = nI 1) (hF : ∀ k, k < 509 → rowG G (5 + j) k = F k) (h : ∀ s' v F' G' n', IV s' F' G' n' (B + 1) → s'.1 18 0 j = nI 1 → (∀ k, k < 509 → rowG G' (5 + j) k = F k) → Q (some (.inl v)) s') : wpM L xs codT retT (f + 8) m_L_turn [.inr (9, 0), .inl w, .inl a, .inl b] s Q := by
  subst e
  refine l_turnI hI hB hB2 hk (fun s' v F' G' n' hf hI' hr => h s' v F' G' n' hI' ((hf 18 0 j (by omega)).trans hs) (fun k hk => by rw [hr j hj]; exact hF k hk))
set_option maxHeartbeats 4000000 in
set_option maxRecDepth 100000 in
theorem w_isSaved (hI : IV s F G n B) (hB : 1 ≤ B) (hB2 : B < 999990) (h : ∀ s' G' n', IV s' F G' n' (B + 1) → QL (some (.inl (.inl (nI 1)))) s') : wpL L xs codT colT retT (f + 9) m_L_isSaved [.inl (.inr (9, 0)), .inl (.inl a), .inl (.inl b)] s QL := by
  obtain ⟨j, hj, e⟩ := and1 a
  obtain ⟨k, eu, hk⟩ := iN_nn (up_iN (x := b) (m := 15) (by omega) (by omega)) (by omega)
  intro callM callL hcM hcL X hX; refine hX 1000 0 _ _ _ ?_
  repeat' (first | (intro hc) | (refine And.intro ?_ ?_) | (exact absurd nI_0 ‹cmpF 0 (nI 0) 0›) | (exact absurd ‹cmpT 0 (nI 1) 0› nI1_ne) | (exact absurd nI_0 ‹cmpT 1 (nI 0) 0›) | (exact absurd ‹cmpF 1 (nI 1) 0› nI1_ne) | (show wpl _ _ _ _ _ _ _ _ _ _ _ _; conv => whnf) | (simp (disch := omega) only [nI_add, nI_mul, nI_cl, Nat.add_zero]) | (refine hcM _ _ _ _ ?_; first | (refine g_cntI ‹_› ?_) | (refine g_saveS hI hj e ?_) | (refine g_t0I ‹_› ?_) | (refine l_up (by decide) ?_) | (refine l_turnS ‹IV _ _ _ _ _› hB (by omega) eu (by omega) hj ‹_› ‹_› ?_) | (refine g_restI ‹IV _ _ _ _ _› hj e ‹_› ‹_› ?_) | fail) | (refine hcL _ _ _ _ ?_; first | (refine g_viewI ‹_› ?_) | fail))
  all_goals first
    | exact nI_1b
    | exact h _ _ _ (by assumption)
    | exact absurd (cmp_self _) (by assumption)
    | exact absurd rfl (by assumption)
    | skip
theorem IV_same (h : IV s F G n B) (hf : Fr s s') (hC : CL s' F G n B) : IV s' F G n B := ⟨hC, h.2.1, h.2.2.1, fun j hj e => h.2.2.2 j hj (by rw [hf 18 0 j (by omega)] at e; exact e)⟩
theorem g_rouI (hI : IV s F G n B) (hr : r < cR F) (hj : j < 6) (h : Q (some (.inl (F (165 + 6 * r + j)))) s) : wpM L xs codT retT (f + 2) m_X9_router [.inr (9, 0), .inl (nI r), .inl (nI j)] s Q := g_rou hI.hw hI.hR hr hj h
theorem g_ansI (hI : IV s F G n B) (hn : iN name 256) (e : optI (ansF F name) (-5) = w) (h : Q (some (.inl w)) s) : wpM L xs codT retT (f + 4) m_X9_answer [.inr (9, 0), .inl name] s Q := c_answer hI.hw hI.hR (by unfold answF; rw [if_pos hn, e]; exact h)
theorem g_reachI (hI : IV s F G n B) (hr : r < cR F) (hn : iN name 256) (hf : iN flow 100) (h : ∀ s', IV s' F G n B → Q (some (.inl (sendF F r name flow).1)) s') : wpM L xs codT retT (f + 6) m_X9_wouldReach [.inr (9, 0), .inl (nI r), .inl name, .inl flow, .inl (nI 0)] s Q := by
  have h4 := hI.hw.r2
  refine x_wouldReach hI.cl (fun s' hfr hC => ?_)
  have e : reachA F (nI r) name flow (nI 0) = (sendF F r name flow).1 := by
    unfold reachA
    rw [if_neg (fun q => q (iN_k hr (by omega))), if_neg (fun q => q ⟨⟨hn, hf⟩, iN_k (by omega) (by omega)⟩), show nn (nI r) = r from nI_cl (by omega), add0]
    have : putF F 0 (F 0) = F := funext fun i => by
      unfold putF
      split
      · rename_i q; rw [q]
      · rfl
    rw [this]
  rw [e]
  exact h s' (IV_same hI hfr hC)
theorem g_askI (hI : IV s F G n B) (hr : r < cR F) (hn : iN name 256) (hf : iN flow 100) (hd : (sendF F r name flow).2 (165 + 6 * r + 1) = F (165 + 6 * r + 1) + nI d) (h : ∀ s', IV s' F G n B → Q (some (.inl (nI d))) s') : wpM L xs codT retT (f + 6) m_X9_wouldAsk [.inr (9, 0), .inl (nI r), .inl name, .inl flow] s Q := by
  have h4 := hI.hw.r2
  refine x_wouldAsk hI.cl (fun s' hfr hC => ?_)
  have e : askA F (nI r) name flow = nI d := by
    unfold askA
    rw [if_neg (fun q => q (iN_k hr (by omega))), if_neg (fun q => q ⟨hn, hf⟩), show nn (nI r) = r from nI_cl (by omega), hd, sub_add]
  rw [e]
  exact h s' (IV_same hI hfr hC)
theorem g_sendI (hI : IV s F G n B) (hB : 1 ≤ B) (hB2 : B < 1000000) (hr : r < cR F) (hn : iN name 256) (hf : iN flow 100) (h : ∀ s', IV s' (sendF F r name flow).2 (recG G F n) (recN n) (B + 1) → Q (some (.inl (sendF F r name flow).1)) s') : wpM L xs codT retT (f + 6) m_X9_send [.inr (9, 0), .inl (nI r), .inl name, .inl flow] s Q := by
  have h4 := hI.hw.r2
  have e : letterF F (nI r) name flow = sendF F r name flow := by
    unfold letterF
    rw [if_neg (fun q => q (iN_k hr (by omega))), if_neg (fun q => q ⟨hn, hf⟩), show nn (nI r) = r from nI_cl (by omega)]
  have h0 := (send_ok hI.hw hr hn hf.1).2.2
  have hc := (cn_letter (v := nI r) (name := name) (flow := flow) hI.hw hB2 hI.2.1).1
  refine x_send hI.cl hB hB2 (fun s' hfr hC => ?_)
  rw [e] at hC hc ⊢
  exact h s' (IV_pos hI hfr hC h0 hc)
theorem g_sendN (hI : IV s F G n B) (hB : 1 ≤ B) (hB2 : B < 1000000) (hr : cR F ≤ r) (hr2 : r < 1000) (h : ∀ s', IV s' F G n (B + 1) → Q (some (.inl (-1))) s') : wpM L xs codT retT (f + 6) m_X9_send [.inr (9, 0), .inl (nI r), .inl name, .inl flow] s Q := by
  have e : letterF F (nI r) name flow = (-1, F) := by
    unfold letterF
    rw [if_pos (fun q => by have := q.2; rw [nI_toI (by omega)] at this; omega)]
  refine x_send hI.cl hB hB2 (fun s' hfr hC => ?_)
  rw [e] at hC ⊢
  exact h s' (IV_neg hI hfr hC (show (-1 : Int32).toInt < 0 by decide))
theorem g_tot3I (hI : IV s F G n B) (h : Q (some (.inl (nI (cR F)))) s) : wpM L xs codT retT (f + 6) m_X9_total [.inr (9, 0), .inl (nI 3)] s Q := g_tot3 hI.hw hI.hR h
theorem g_upI (hI : IV s F G n B) (hk : k < cT F) (hu : upF F k) (h : Q (some (.inl (nI 1))) s) : wpM L xs codT retT (f + 5) m_X9_site [.inr (9, 0), .inl (nI k), .inl (nI 6)] s Q := g_up hI.hw hI.hR hk (by rw [show bI (upF F k) = nI 1 from if_pos hu]; exact h)
theorem g_sitI (hI : IV s F G n B) (hk : k < cT F) (hj : j < 5) (h : Q (some (.inl (F (29 + 17 * k + j)))) s) : wpM L xs codT retT (f + 5) m_X9_site [.inr (9, 0), .inl (nI k), .inl (nI j)] s Q := g_sit hI.hw hI.hR rfl hk hj h
set_option maxHeartbeats 4000000 in
set_option maxRecDepth 100000 in
theorem w_isSent0 (hI : IV s F G n B) (hB : 1 ≤ B) (hB2 : B < 999990) (hr : cR F ≤ r) (hr2 : r < 1000) (h : ∀ s' G' n', IV s' F G' n' (B + 1) → QL (some (.inl (.inl (nI 1)))) s') : wpL L xs codT colT retT (f + 9) m_L_isSent [.inl (.inr (9, 0)), .inl (.inl (nI r)), .inl (.inl name), .inl (.inl flow)] s QL := by
  have h4 := hI.hw.r2
  intro callM callL hcM hcL X hX; refine hX 1000 0 _ _ _ ?_
  repeat' (first | (intro hc) | (refine And.intro ?_ ?_) | (exact absurd nI_0 ‹cmpF 0 (nI 0) 0›) | (exact absurd ‹cmpT 0 (nI 1) 0› nI1_ne) | (exact absurd nI_0 ‹cmpT 1 (nI 0) 0›) | (exact absurd ‹cmpF 1 (nI 1) 0› nI1_ne) | (show wpl _ _ _ _ _ _ _ _ _ _ _ _; conv => whnf) | (simp (disch := omega) only [nI_add, nI_mul, nI_cl, Nat.add_zero]) | (refine hcM _ _ _ _ ?_; first | (refine g_tot3I ‹_› ?_) | (refine g_sendN hI hB (by omega) hr hr2 ?_) | fail))
  all_goals first
    | exact nI_1b
    | exact h _ _ _ (by assumption)
    | exact absurd rfl (by assumption)
    | (clear h hcM hcL; (try clear hX hcall); (try clear h); (try simp (disch := omega) only [cmpT, cmpF, bI_eq0, bI_ne0, Classical.not_not, nI_toI, nI_cl, nI_inj, nI_add, nI_mul, nI_subI, takeL, setL, Int32.toInt_zero, Nat.add_zero, setN_now, alen20, alen11, alen12, alen13, alen14, alen15, alen16, alen17, alen18, alen19, Nat.add_zero] at *); omega)
theorem PL_at (hw : WF F B) (h : ∀ i, i < 165 → F2 i = F i) (hk : k < cT F) (hu : upF F k) (hh : hasF F k name) (hj : j < 3) (h1 : F (29 + 17 * k + 5 + 4 * j) = nI 1) (h2 : F (29 + 17 * k + 5 + 4 * j + 1) = v) : k < cT F2 ∧ upF F2 k ∧ hasF F2 k name ∧ F2 (29 + 17 * k + 5 + 4 * j) = nI 1 ∧ F2 (29 + 17 * k + 5 + 4 * j + 1) = v := by
  have h8 := hw.t2
  have eT : cT F2 = cT F := by unfold cT; rw [h 2 (by omega)]
  refine ⟨by omega, (upF_cg h (by omega)).mpr hu, ?_, by rw [h _ (by omega)]; exact h1, by rw [h _ (by omega)]; exact h2⟩
  unfold hasF at hh ⊢
  rw [h (29 + 17 * k) (by omega), h (29 + 17 * k + 1) (by omega)]
  exact hh
theorem g_hasI (hI : IV s F2 G n B) (q : k < cT F2 ∧ upF F2 k ∧ hasF F2 k name ∧ F2 (29 + 17 * k + 5 + 4 * j) = nI 1 ∧ F2 (29 + 17 * k + 5 + 4 * j + 1) = v) (hj : j < 3) (h : Q (some (.inl (nI 1))) s) : wpM L xs codT retT (f + 7) m_L_hasPlace [.inr (9, 0), .inl name, .inl v] s Q := l_hasPlace hI.hw hI.hR q.1 q.2.1 q.2.2.1 hj q.2.2.2.1 q.2.2.2.2 h
end LW7
