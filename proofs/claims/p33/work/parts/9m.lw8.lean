/-! THE LAW'S CHECKS WITH VIEWS: isSent -/
theorem n32 : ¬ nI 32 = 0 := by decide +kernel
section LW8
variable {L : Nat} {xs : Nat → Int32} {f i n B k r m j p c l d : Nat} {x y a b w v name flow place : Int32} {s s' : St} {F F1 F2 G : Fm} {o : Int32 × Fm} {Q : Option MV → St → Prop} {QL : Option LV → St → Prop}
set_option maxHeartbeats 8000000 in
set_option maxRecDepth 100000 in
theorem w_sentLN (hI : IV s F G n B) (hB : 1 ≤ B) (hB2 : B < 999990) (hr : r < cR F) (hn : iN name 256) (hf : iN flow 100) (hd2 : d ≤ 2) (hd : F2 (165 + 6 * r + 1) = F (165 + 6 * r + 1) + nI d) (eS : sendF F r name flow = (v, F2)) (hlo : ∀ i, i < 165 → F2 i = F i) (q : k < cT F2 ∧ upF F2 k ∧ hasF F2 k name ∧ F2 (29 + 17 * k + 5 + 4 * j) = nI 1 ∧ F2 (29 + 17 * k + 5 + 4 * j + 1) = v) (hj : j < 3) (hv : 0 ≤ v.toInt ∧ v.toInt < 32) (ea : optI (ansF F name) (-5) = -5) (h : ∀ s' G' n', IV s' F G' n' (B + 1) → QL (some (.inl (.inl (nI 1)))) s') : wpL L xs codT colT retT (f + 9) m_L_isSent [.inl (.inr (9, 0)), .inl (.inl (nI r)), .inl (.inl name), .inl (.inl flow)] s QL := by
  have h4 := hI.hw.r2
  have h8 := hI.hw.t2
  have hn5 := hI.cl.n5
  have hr2 : r < cR F2 := by unfold cR; rw [hlo 3 (by omega)]; exact hr
  have hlast := rec_last (G := G) (F := F) hn5
  have hN := recN_le hn5
  have esub : F2 (165 + 6 * r + 1) - F (165 + 6 * r + 1) = nI d := by rw [hd, sub_add]
  have g_reachP : ∀ {Q : Option MV → St → Prop} {s1 : St} {f : Nat}, IV s1 F G n B → (∀ s', IV s' F G n B → Q (some (.inl v)) s') → wpM L xs codT retT (f + 6) m_X9_wouldReach [.inr (9, 0), .inl (nI r), .inl name, .inl flow, .inl (nI 0)] s1 Q := fun hi h => g_reachI hi hr hn hf (by rw [eS]; exact h)
  have g_askP : ∀ {Q : Option MV → St → Prop} {s1 : St} {f : Nat}, IV s1 F G n B → (∀ s', IV s' F G n B → Q (some (.inl (nI d))) s') → wpM L xs codT retT (f + 6) m_X9_wouldAsk [.inr (9, 0), .inl (nI r), .inl name, .inl flow] s1 Q := fun hi h => g_askI hi hr hn hf (by rw [eS]; exact hd) h
  have g_sendP : ∀ {Q : Option MV → St → Prop} {s1 : St} {f : Nat}, IV s1 F G n B → (∀ s', IV s' F2 (recG G F n) (recN n) (B + 1) → Q (some (.inl v)) s') → wpM L xs codT retT (f + 6) m_X9_send [.inr (9, 0), .inl (nI r), .inl name, .inl flow] s1 Q := fun hi h => g_sendI hi hB (by omega) hr hn hf (by rw [eS]; exact h)
  have k1 : ¬ cmpF 2 (nI r) (nI (cR F)) := fun q => by
    have q : (nI (cR F)).toInt ≤ (nI r).toInt := q
    rw [nI_toI (by omega), nI_toI (by omega)] at q
    omega
  have k2 : ¬ cmpT 4 (nI d) (nI 2) := fun q => by
    have q : (nI 2).toInt < (nI d).toInt := q
    rw [nI_toI (by omega), nI_toI (by omega)] at q
    omega
  have k3 : ¬ cmpT 2 (nI (recN n - 1)) 0 := fun q => by
    have q : (nI (recN n - 1)).toInt < (0 : Int32).toInt := q
    rw [nI_toI (by omega), Int32.toInt_zero] at q
    omega
  have k4 : ¬ cmpT 3 v (nI 32) := fun q => by
    have q : (nI 32).toInt ≤ v.toInt := q
    rw [nI_toI (by omega)] at q
    omega
  intro callM callL hcM hcL X hX; refine hX 1000 0 _ _ _ ?_
  repeat' (first | (intro hc; first | exact absurd hc k1 | exact absurd hc k2 | exact absurd hc k3 | exact absurd rfl hc | exact absurd esub hc | exact absurd (cmp_self _) hc | exact absurd hc nI1_ne | exact absurd nI_0 hc | exact absurd hc k4 | skip) | (show wpl _ _ _ _ _ _ _ _ _ _ _ _; conv => whnf) | (refine And.intro ?_ ?_) | (refine hcM _ _ _ _ ?_; first | (refine g_tot3I ‹_› ?_) | (refine g_ansI hI hn ea ?_) | (refine g_reachP ‹_› ?_) | (refine g_askP ‹_› ?_) | (refine g_rouI ‹IV _ F _ _ _› hr (by omega) ?_) | (refine g_rouI ‹IV _ F2 _ _ _› hr2 (by omega) ?_) | (refine g_sendP ‹_› ?_) | (refine g_undoI ‹IV _ F2 _ _ _› recN_pos hlast ?_) | (refine g_hasI ‹IV _ F2 _ _ _› q hj ?_) | fail) | (refine hcL _ _ _ _ ?_; first | (refine g_viewI ‹IV _ F _ _ _› ?_) | fail) | (simp (disch := omega) only [nI_add, nI_mul, nI_cl, Nat.add_zero]))
  all_goals first
    | exact nI_1b
    | exact h _ _ _ (by assumption)
    | exact absurd (cmp_self _) (by assumption)
    | exact absurd rfl (by assumption)
    | exact absurd esub (by assumption)
    | exact n32 (by assumption)
    | skip
set_option maxHeartbeats 8000000 in
set_option maxRecDepth 100000 in
theorem w_sentLS (hI : IV s F G n B) (hB : 1 ≤ B) (hB2 : B < 999990) (hr : r < cR F) (hn : iN name 256) (hf : iN flow 100) (hd2 : d ≤ 2) (hd : F2 (165 + 6 * r + 1) = F (165 + 6 * r + 1) + nI d) (eS : sendF F r name flow = (v, F2)) (hlo : ∀ i, i < 165 → F2 i = F i) (q : k < cT F2 ∧ upF F2 k ∧ hasF F2 k name ∧ F2 (29 + 17 * k + 5 + 4 * j) = nI 1 ∧ F2 (29 + 17 * k + 5 + 4 * j + 1) = v) (hj : j < 3) (hv : 0 ≤ v.toInt ∧ v.toInt < 32) (ea : optI (ansF F name) (-5) = nI p) (hp : p < cT F) (hup : upF F p) (hha : hasF F p name) (h : ∀ s' G' n', IV s' F G' n' (B + 1) → QL (some (.inl (.inl (nI 1)))) s') : wpL L xs codT colT retT (f + 9) m_L_isSent [.inl (.inr (9, 0)), .inl (.inl (nI r)), .inl (.inl name), .inl (.inl flow)] s QL := by
  have h4 := hI.hw.r2
  have h8 := hI.hw.t2
  have hn5 := hI.cl.n5
  have hr2 : r < cR F2 := by unfold cR; rw [hlo 3 (by omega)]; exact hr
  have hlast := rec_last (G := G) (F := F) hn5
  have hN := recN_le hn5
  have esub : F2 (165 + 6 * r + 1) - F (165 + 6 * r + 1) = nI d := by rw [hd, sub_add]
  have g_reachP : ∀ {Q : Option MV → St → Prop} {s1 : St} {f : Nat}, IV s1 F G n B → (∀ s', IV s' F G n B → Q (some (.inl v)) s') → wpM L xs codT retT (f + 6) m_X9_wouldReach [.inr (9, 0), .inl (nI r), .inl name, .inl flow, .inl (nI 0)] s1 Q := fun hi h => g_reachI hi hr hn hf (by rw [eS]; exact h)
  have g_askP : ∀ {Q : Option MV → St → Prop} {s1 : St} {f : Nat}, IV s1 F G n B → (∀ s', IV s' F G n B → Q (some (.inl (nI d))) s') → wpM L xs codT retT (f + 6) m_X9_wouldAsk [.inr (9, 0), .inl (nI r), .inl name, .inl flow] s1 Q := fun hi h => g_askI hi hr hn hf (by rw [eS]; exact hd) h
  have g_sendP : ∀ {Q : Option MV → St → Prop} {s1 : St} {f : Nat}, IV s1 F G n B → (∀ s', IV s' F2 (recG G F n) (recN n) (B + 1) → Q (some (.inl v)) s') → wpM L xs codT retT (f + 6) m_X9_send [.inr (9, 0), .inl (nI r), .inl name, .inl flow] s1 Q := fun hi h => g_sendI hi hB (by omega) hr hn hf (by rw [eS]; exact h)
  have k1 : ¬ cmpF 2 (nI r) (nI (cR F)) := fun q => by
    have q : (nI (cR F)).toInt ≤ (nI r).toInt := q
    rw [nI_toI (by omega), nI_toI (by omega)] at q
    omega
  have k2 : ¬ cmpT 4 (nI d) (nI 2) := fun q => by
    have q : (nI 2).toInt < (nI d).toInt := q
    rw [nI_toI (by omega), nI_toI (by omega)] at q
    omega
  have k3 : ¬ cmpT 2 (nI (recN n - 1)) 0 := fun q => by
    have q : (nI (recN n - 1)).toInt < (0 : Int32).toInt := q
    rw [nI_toI (by omega), Int32.toInt_zero] at q
    omega
  have k4 : ¬ cmpT 3 v (nI 32) := fun q => by
    have q : (nI 32).toInt ≤ v.toInt := q
    rw [nI_toI (by omega)] at q
    omega
  have k5 : ¬ cmpT 2 name (F (29 + 17 * p + 0)) := fun q => by
    have q : name.toInt < (F (29 + 17 * p)).toInt := q
    have := hha.1
    omega
  have k6 : ¬ cmpT 3 name (F (29 + 17 * p + 0) + F (29 + 17 * p + 1)) := fun q => by
    have q : (F (29 + 17 * p) + F (29 + 17 * p + 1)).toInt ≤ name.toInt := q
    have := hha.2
    omega
  intro callM callL hcM hcL X hX; refine hX 1000 0 _ _ _ ?_
  repeat' (first | (intro hc; first | exact absurd hc k1 | exact absurd hc k2 | exact absurd hc k3 | exact absurd rfl hc | exact absurd esub hc | exact absurd (cmp_self _) hc | exact absurd hc nI1_ne | exact absurd nI_0 hc | exact absurd hc k4 | exact absurd hc k5 | exact absurd hc k6 | skip) | (show wpl _ _ _ _ _ _ _ _ _ _ _ _; conv => whnf) | (refine And.intro ?_ ?_) | (refine hcM _ _ _ _ ?_; first | (refine g_tot3I ‹_› ?_) | (refine g_ansI hI hn ea ?_) | (refine g_reachP ‹_› ?_) | (refine g_askP ‹_› ?_) | (refine g_rouI ‹IV _ F _ _ _› hr (by omega) ?_) | (refine g_rouI ‹IV _ F2 _ _ _› hr2 (by omega) ?_) | (refine g_sendP ‹_› ?_) | (refine g_undoI ‹IV _ F2 _ _ _› recN_pos hlast ?_) | (refine g_hasI ‹IV _ F2 _ _ _› q hj ?_) | (refine g_upI ‹IV _ F _ _ _› hp hup ?_) | (refine g_sitI ‹IV _ F _ _ _› hp (by omega) ?_) | fail) | (refine hcL _ _ _ _ ?_; first | (refine g_viewI ‹IV _ F _ _ _› ?_) | fail) | (simp (disch := omega) only [nI_add, nI_mul, nI_cl, Nat.add_zero]))
  all_goals first
    | exact nI_1b
    | exact h _ _ _ (by assumption)
    | exact absurd (cmp_self _) (by assumption)
    | exact absurd rfl (by assumption)
    | exact absurd esub (by assumption)
    | exact n32 (by assumption)
    | skip
set_option maxHeartbeats 8000000 in
set_option maxRecDepth 100000 in
theorem w_sentRN (hI : IV s F G n B) (hB : 1 ≤ B) (hB2 : B < 999990) (hr : r < cR F) (hn : iN name 256) (hf : iN flow 100) (hd2 : d ≤ 2) (hd : F2 (165 + 6 * r + 1) = F (165 + 6 * r + 1) + nI d) (eS : sendF F r name flow = (v, F2)) (hlo : ∀ i, i < 165 → F2 i = F i) (hv : 32 ≤ v.toInt) (ep : v = nI 32 + name / nI 32) (ea : optI (ansF F name) (-5) = -5) (h : ∀ s' G' n', IV s' F G' n' (B + 1) → QL (some (.inl (.inl (nI 1)))) s') : wpL L xs codT colT retT (f + 9) m_L_isSent [.inl (.inr (9, 0)), .inl (.inl (nI r)), .inl (.inl name), .inl (.inl flow)] s QL := by
  have h4 := hI.hw.r2
  have h8 := hI.hw.t2
  have hn5 := hI.cl.n5
  have hr2 : r < cR F2 := by unfold cR; rw [hlo 3 (by omega)]; exact hr
  have hlast := rec_last (G := G) (F := F) hn5
  have hN := recN_le hn5
  have esub : F2 (165 + 6 * r + 1) - F (165 + 6 * r + 1) = nI d := by rw [hd, sub_add]
  have g_reachP : ∀ {Q : Option MV → St → Prop} {s1 : St} {f : Nat}, IV s1 F G n B → (∀ s', IV s' F G n B → Q (some (.inl v)) s') → wpM L xs codT retT (f + 6) m_X9_wouldReach [.inr (9, 0), .inl (nI r), .inl name, .inl flow, .inl (nI 0)] s1 Q := fun hi h => g_reachI hi hr hn hf (by rw [eS]; exact h)
  have g_askP : ∀ {Q : Option MV → St → Prop} {s1 : St} {f : Nat}, IV s1 F G n B → (∀ s', IV s' F G n B → Q (some (.inl (nI d))) s') → wpM L xs codT retT (f + 6) m_X9_wouldAsk [.inr (9, 0), .inl (nI r), .inl name, .inl flow] s1 Q := fun hi h => g_askI hi hr hn hf (by rw [eS]; exact hd) h
  have g_sendP : ∀ {Q : Option MV → St → Prop} {s1 : St} {f : Nat}, IV s1 F G n B → (∀ s', IV s' F2 (recG G F n) (recN n) (B + 1) → Q (some (.inl v)) s') → wpM L xs codT retT (f + 6) m_X9_send [.inr (9, 0), .inl (nI r), .inl name, .inl flow] s1 Q := fun hi h => g_sendI hi hB (by omega) hr hn hf (by rw [eS]; exact h)
  have k1 : ¬ cmpF 2 (nI r) (nI (cR F)) := fun q => by
    have q : (nI (cR F)).toInt ≤ (nI r).toInt := q
    rw [nI_toI (by omega), nI_toI (by omega)] at q
    omega
  have k2 : ¬ cmpT 4 (nI d) (nI 2) := fun q => by
    have q : (nI 2).toInt < (nI d).toInt := q
    rw [nI_toI (by omega), nI_toI (by omega)] at q
    omega
  have k3 : ¬ cmpT 2 (nI (recN n - 1)) 0 := fun q => by
    have q : (nI (recN n - 1)).toInt < (0 : Int32).toInt := q
    rw [nI_toI (by omega), Int32.toInt_zero] at q
    omega
  have k4 : ¬ cmpF 3 v (nI 32) := fun q => by
    have q : v.toInt < (nI 32).toInt := q
    rw [nI_toI (by omega)] at q
    omega
  intro callM callL hcM hcL X hX; refine hX 1000 0 _ _ _ ?_
  repeat' (first | (intro hc; first | exact absurd hc k1 | exact absurd hc k2 | exact absurd hc k3 | exact absurd rfl hc | exact absurd esub hc | exact absurd (cmp_self _) hc | exact absurd hc nI1_ne | exact absurd nI_0 hc | exact absurd hc k4 | exact absurd ep hc | skip) | (show wpl _ _ _ _ _ _ _ _ _ _ _ _; conv => whnf) | (refine And.intro ?_ ?_) | (refine hcM _ _ _ _ ?_; first | (refine g_tot3I ‹_› ?_) | (refine g_ansI hI hn ea ?_) | (refine g_reachP ‹_› ?_) | (refine g_askP ‹_› ?_) | (refine g_rouI ‹IV _ F _ _ _› hr (by omega) ?_) | (refine g_rouI ‹IV _ F2 _ _ _› hr2 (by omega) ?_) | (refine g_sendP ‹_› ?_) | (refine g_undoI ‹IV _ F2 _ _ _› recN_pos hlast ?_) | fail) | (refine hcL _ _ _ _ ?_; first | (refine g_viewI ‹IV _ F _ _ _› ?_) | fail) | (simp (disch := omega) only [nI_add, nI_mul, nI_cl, Nat.add_zero]))
  all_goals first
    | exact nI_1b
    | exact h _ _ _ (by assumption)
    | exact absurd (cmp_self _) (by assumption)
    | exact absurd rfl (by assumption)
    | exact absurd esub (by assumption)
    | exact n32 (by assumption)
    | skip
theorem w_isSent (hI : IV s F G n B) (hB : 1 ≤ B) (hB2 : B < 999990) (hr2 : r < 1000) (hn : iN name 256) (hf : iN flow 100) (h : ∀ s' G' n', IV s' F G' n' (B + 1) → QL (some (.inl (.inl (nI 1)))) s') : wpL L xs codT colT retT (f + 9) m_L_isSent [.inl (.inr (9, 0)), .inl (.inl (nI r)), .inl (.inl name), .inl (.inl flow)] s QL := by
  rcases Nat.lt_or_ge r (cR F) with hr | hr
  · have hw := hI.hw
    obtain ⟨d1, d2, d4, d5, hd, s1, -, ⟨u1, -⟩, pl⟩ := send_all (name := name) (flow := flow) hw hr hf.1
    have eS : sendF F r name flow = ((sendF F r name flow).1, (sendF F r name flow).2) := rfl
    have hlo : ∀ i, i < 165 → (sendF F r name flow).2 i = F i := fun i hi => s1.lo hi
    generalize (sendF F r name flow).2 = F2 at *
    generalize (sendF F r name flow).1 = v at *
    rcases pl with ⟨k, hk, hu, hh, j, hj, e1, e2⟩ | ⟨e1, e2⟩
    · have hv : 0 ≤ v.toInt ∧ v.toInt < 32 := by rw [← e2]; exact slot_pl (hw.flag hk j hj) e1
      have q := PL_at (F2 := F2) hw hlo hk hu hh hj e1 e2
      cases ha : ansF F name with
      | none => exact w_sentLN hI hB hB2 hr hn hf hd.1 u1 eS hlo q hj hv (by rw [ha]; rfl) h
      | some p =>
        obtain ⟨g1, g2⟩ := ansN_up _ _ ha
        exact w_sentLS hI hB hB2 hr hn hf hd.1 u1 eS hlo q hj hv (by rw [ha]; rfl) (ansF_lt ha) g1 g2 h
    · exact w_sentRN hI hB hB2 hr hn hf hd.1 u1 eS hlo (by rw [e2]; exact (prox_nn hn).1) e2 (by rw [e1]; rfl) h
  · exact w_isSent0 hI hB hB2 hr hr2 h
end LW8
