/-! THE REFERENCE: acts done -/
section REF32
variable {L : Nat} {xs : Nat → Int32} {f i k r p q c j n B b w m lo hi d t : Nat} {x y v z l name flow place : Int32} {s : St} {F G F' u : Fm} {T : Nat → Nat} {Q : Option MV → St → Prop}
theorem do_ok {a b c : Nat} (hw : WFh F B) : WFh (doF F t a b c).2 B := by
  unfold doF
  split
  · exact letter_ok hw
  · split
    · exact reg_ok hw
    · split
      · exact unreg_ok hw
      · exact pass_ok hw
theorem do_neg {a b c : Nat} (hw : WFh F B) (h : (doF F t a b c).1.toInt < 0) : (doF F t a b c).2 = F := by
  unfold doF at h ⊢
  split
  · rw [if_pos (by assumption)] at h; exact letter_neg hw h
  · rw [if_neg (by assumption)] at h
    split
    · rw [if_pos (by assumption)] at h; exact reg_neg hw h
    · rw [if_neg (by assumption)] at h
      split
      · rw [if_pos (by assumption)] at h; exact unreg_neg hw h
      · rw [if_neg (by assumption)] at h; exact pass_neg hw h
theorem run_ok : ∀ k p F c, WFh F B → WFh (runF T n k p F c).2 B := by
  intro k
  induction k with
  | zero => intro p F c hw; exact hw
  | succ k ih =>
    intro p F c hw
    unfold runF
    split
    · split
      · exact hw
      · split
        · exact ih _ _ _ (do_ok hw)
        · exact hw
    · exact hw
theorem neg_1 : ¬ 0 ≤ (-1 : Int32).toInt := by decide
theorem neg_3 : ¬ 0 ≤ (-3 : Int32).toInt := by decide
set_option maxHeartbeats 4000000 in
set_option maxRecDepth 100000 in
theorem r_does {a b c : Nat} (hw : WFh F B) (e8 : s.1 10 0 8 = nI t) (e9 : s.1 10 0 9 = nI a) (e10 : t = 115 → s.1 10 0 10 = nI b ∧ s.1 10 0 11 = nI c) (hr : ((t = 115 ∧ a ≤ 3) ∨ (t = 116 ∧ 1 ≤ a ∧ a ≤ 99) ∨ (t = 114 ∧ a ≤ 7) ∨ (t = 117 ∧ a ≤ 7)) ∧ b ≤ 255 ∧ c ≤ 99) (h0 : ¬ 0 ≤ (doF F t a b c).1.toInt → Q (some (.inl (nI 0))) (setN s F)) (h1 : 0 ≤ (doF F t a b c).1.toInt → Q (some (.inl (nI 1))) (setN s (doF F t a b c).2)) : wpM L xs codT retT (f + 8) m_X10_does [.inr (10, 0)] (setN s F) Q := by
  obtain ⟨hw, h9⟩ := hw
  have hh := hw.h
  have t2 := hw.t2
  have r2 := hw.r2
  have g8 : (setN s F).1 10 0 8 = nI t := (setN_o (by omega)).trans e8
  have g9 : (setN s F).1 10 0 9 = nI a := (setN_o (by omega)).trans e9
  have ef9 : fv (setN s F) 10 0 9 = .inl (nI a) := by
    show (Sum.inl ((setN s F).1 10 0 9) : MV) = _
    rw [g9]
  obtain ⟨hr, hb, hcc⟩ := hr
  rcases hr with ⟨ht, ha⟩ | ⟨ht, ha1, ha⟩ | ⟨ht, ha⟩ | ⟨ht, ha⟩
  · subst ht
    obtain ⟨e10, e11⟩ := e10 rfl
    have g10 : (setN s F).1 10 0 10 = nI b := (setN_o (by omega)).trans e10
    have g11 : (setN s F).1 10 0 11 = nI c := (setN_o (by omega)).trans e11
    have ef10 : fv (setN s F) 10 0 10 = .inl (nI b) := by
      show (Sum.inl ((setN s F).1 10 0 10) : MV) = _
      rw [g10]
    have ef11 : fv (setN s F) 10 0 11 = .inl (nI c) := by
      show (Sum.inl ((setN s F).1 10 0 11) : MV) = _
      rw [g11]
    have ed : doF F 115 a b c = letterF F (nI a) (nI b) (nI c) := if_pos rfl
    rw [ed] at h0 h1
    by_cases hv : a < cR F
    · have hv2 := iN_k hv (by omega)
      have el : letterF F (nI a) (nI b) (nI c) = sendF F a (nI b) (nI c) := by
        unfold letterF
        rw [if_neg (fun q => q hv2), if_neg (fun q => q ⟨iN_k (by omega) (by omega), iN_k (by omega) (by omega)⟩), show nn (nI a) = a from nI_cl (by omega)]
      rw [el] at h0 h1
      have hpos := (send_ok (flow := nI c) hw hv (iN_k (n := 256) (k := b) (by omega) (by omega)) (by rw [nI_toI (by omega)]; omega)).2.2
      have h := h1 hpos
      clear h0 h1
      intro call hcall X hX; refine hX 1000 0 _ _ _ ?_
      repeat' (first | (intro hc) | (refine And.intro ?_ ?_) | (exact absurd nI_0 ‹cmpF 0 (nI 0) 0›) | (exact absurd ‹cmpT 0 (nI 1) 0› nI1_ne) | (exact absurd nI_0 ‹cmpT 1 (nI 0) 0›) | (exact absurd ‹cmpF 1 (nI 1) 0› nI1_ne) | (show wp _ _ _ _ _ _ _ _ _ _ _ _; conv => whnf) | (rw [ef9]) | (rw [ef10]) | (rw [ef11]) | (simp (disch := omega) only [nI_add, nI_mul, setN_now, setN_put, nI_cl, Nat.add_zero]) | (refine hcall _ _ _ _ ?_; first | (refine r_isRouter hw.r1 (by omega) ?_) | (refine r_sends hw hv ?_) | fail))
      all_goals first
        | exact Or.inr rfl
        | exact h
        | (exfalso; exact (by assumption : cmpT 1 ((setN s F).1 10 0 8) (nI 115)) g8)
        | (exfalso; have q1 : (setN s F).1 10 0 9 = nI a := g9; rw [q1] at *; exact bF hv2 (by assumption))
        | (exfalso; exact bF (show iN ((setN s F).1 10 0 9) (cR F) by rw [g9]; exact hv2) (by assumption))
        | (exfalso; clear h hX hcall g8 g9 g10 g11; simp only [cmpT, cmpF, Int32.toInt_zero] at *; omega)
    · have hv2 : ¬ iN ((setN s F).1 10 0 9) (cR F) := by rw [g9]; intro q; have := q.2; rw [nI_toI (by omega)] at this; omega
      have el : letterF F (nI a) (nI b) (nI c) = (-1, F) := by
        unfold letterF
        rw [g9] at hv2
        rw [if_pos hv2]
      rw [el] at h0 h1
      have h := h0 neg_1
      clear h0 h1
      intro call hcall X hX; refine hX 1000 0 _ _ _ ?_
      repeat' (first | (intro hc) | (refine And.intro ?_ ?_) | (exact absurd nI_0 ‹cmpF 0 (nI 0) 0›) | (exact absurd ‹cmpT 0 (nI 1) 0› nI1_ne) | (exact absurd nI_0 ‹cmpT 1 (nI 0) 0›) | (exact absurd ‹cmpF 1 (nI 1) 0› nI1_ne) | (show wp _ _ _ _ _ _ _ _ _ _ _ _; conv => whnf) | (simp (disch := omega) only [nI_add, nI_mul, setN_now, setN_put, nI_cl, Nat.add_zero]) | (refine hcall _ _ _ _ ?_; first | (refine r_isRouter hw.r1 (by omega) ?_) | fail))
      all_goals first
        | exact Or.inl rfl
        | exact h
        | (exfalso; exact (by assumption : cmpT 1 ((setN s F).1 10 0 8) (nI 115)) g8)
        | (exfalso; exact bT hv2 (by assumption))
  · subst ht
    have hnp : ∀ k, k = 115 ∨ k = 114 ∨ k = 117 → ¬ (setN s F).1 10 0 8 = nI k := fun k hk q => nI_ne (a := 116) (b := k) (by omega) (by omega) (by omega) (g8.symm.trans q)
    have ed : doF F 116 a b c = passF F (nI a) := by unfold doF; rw [if_neg (by omega), if_neg (by omega), if_neg (by omega)]
    rw [ed] at h0 h1
    have ea := add_hour (a := F 0) (x := nI a) (by omega) (by rw [nI_toI (by omega)]; omega)
    have ia : (nI a).toInt = (a : Int) := nI_toI (by omega)
    have i9 : (nI 9999).toInt = 9999 := nI_toI (by omega)
    by_cases hl : 9999 < (F 0 + nI a).toInt
    · have el : passF F (nI a) = (-3, F) := by unfold passF; rw [if_neg (fun q => q (by omega)), if_pos hl]
      rw [el] at h0 h1
      have h := h0 neg_3
      have eF : putF F 0 (F 0 + nI 0) = F := by
        funext i
        unfold putF
        split
        · rename_i q
          rw [q]
          apply Int32.toInt_inj.mp
          have z0 : (nI 0).toInt = 0 := by decide
          rw [Int32.toInt_add, z0]
          apply (Int.bmod_eq_of_le _ _).trans <;> omega
        · rfl
      clear h0 h1
      intro call hcall X hX; refine hX 1000 0 _ _ _ ?_
      repeat' (first | (intro hc) | (refine And.intro ?_ ?_) | (exact absurd nI_0 ‹cmpF 0 (nI 0) 0›) | (exact absurd ‹cmpT 0 (nI 1) 0› nI1_ne) | (exact absurd nI_0 ‹cmpT 1 (nI 0) 0›) | (exact absurd ‹cmpF 1 (nI 1) 0› nI1_ne) | (show wp _ _ _ _ _ _ _ _ _ _ _ _; conv => whnf) | (simp (disch := omega) only [nI_cl, setN_now, setN_put]) | (rw [g9]))
      all_goals first
        | exact Or.inl rfl
        | (rw [eF]; exact h)
        | (simp (disch := omega) only [nI_cl, setN_now, setN_put, eF]; exact h)
        | (exfalso; exact hnp 115 (by omega) (by assumption))
        | (exfalso; exact hnp 114 (by omega) (by assumption))
        | (exfalso; exact hnp 117 (by omega) (by assumption))
        | (exfalso; exact nI1_ne (by assumption))
        | (exfalso; exact (by assumption : ¬ nI 0 = 0) nI_0)
        | (clear h hX hcall hnp eF; simp (disch := omega) only [nI_toI, alen20]; omega)
        | (exfalso; clear h hX hcall hnp eF; simp (disch := omega) only [cmpT, cmpF, (id g9), setN_now, nI_cl] at *; omega)
    · have el : passF F (nI a) = (F 0 + nI a, putF F 0 (F 0 + nI a)) := by unfold passF; rw [if_neg (fun q => q (by omega)), if_neg hl]
      rw [el] at h0 h1
      have h := h1 (by show 0 ≤ (F 0 + nI a).toInt; omega)
      clear h0 h1
      intro call hcall X hX; refine hX 1000 0 _ _ _ ?_
      repeat' (first | (intro hc) | (refine And.intro ?_ ?_) | (exact absurd nI_0 ‹cmpF 0 (nI 0) 0›) | (exact absurd ‹cmpT 0 (nI 1) 0› nI1_ne) | (exact absurd nI_0 ‹cmpT 1 (nI 0) 0›) | (exact absurd ‹cmpF 1 (nI 1) 0› nI1_ne) | (show wp _ _ _ _ _ _ _ _ _ _ _ _; conv => whnf) | (simp (disch := omega) only [nI_cl, setN_now, setN_put]) | (rw [g9]))
      all_goals first
        | exact Or.inr rfl
        | exact h
        | (simp (disch := omega) only [nI_cl, setN_now, setN_put, g9]; exact h)
        | (exfalso; exact hnp 115 (by omega) (by assumption))
        | (exfalso; exact hnp 114 (by omega) (by assumption))
        | (exfalso; exact hnp 117 (by omega) (by assumption))
        | (exfalso; exact nI1_ne (by assumption))
        | (exfalso; exact (by assumption : ¬ nI 0 = 0) nI_0)
        | (clear h hX hcall hnp; simp (disch := omega) only [nI_toI, alen20]; omega)
        | (exfalso; clear h hX hcall hnp; simp (disch := omega) only [cmpT, cmpF, (id g9), setN_now, nI_cl] at *; omega)
  · subst ht
    have hnp : ¬ (setN s F).1 10 0 8 = nI 115 := fun q => nI_ne (a := 114) (b := 115) (by omega) (by omega) (by omega) (g8.symm.trans q)
    have ed : doF F 114 a b c = regF F (nI a) := by unfold doF; rw [if_neg (by omega), if_pos rfl]
    rw [ed] at h0 h1
    by_cases hv : a < cT F
    · have hv2 : iN ((setN s F).1 10 0 9) (cT F) := by rw [g9]; exact iN_k hv (by omega)
      have wl := (hw.site hv).2.1
      have el : regF F (nI a) = (F 0 + F (29 + 17 * a + 2), putF F (29 + 17 * a + 4) (F 0 + F (29 + 17 * a + 2))) := by
        unfold regF
        rw [if_neg (fun q => q (iN_k hv (by omega))), show nn (nI a) = a from nI_cl (by omega)]
      have ea := add_hour (a := F 0) (x := F (29 + 17 * a + 2)) (by omega) (by omega)
      rw [el] at h0 h1
      have h := h1 (by show 0 ≤ (F 0 + F (29 + 17 * a + 2)).toInt; omega)
      clear h0 h1
      intro call hcall X hX; refine hX 1000 0 _ _ _ ?_
      repeat' (first | (intro hc) | (refine And.intro ?_ ?_) | (exact absurd nI_0 ‹cmpF 0 (nI 0) 0›) | (exact absurd ‹cmpT 0 (nI 1) 0› nI1_ne) | (exact absurd nI_0 ‹cmpT 1 (nI 0) 0›) | (exact absurd ‹cmpF 1 (nI 1) 0› nI1_ne) | (show wp _ _ _ _ _ _ _ _ _ _ _ _; conv => whnf) | (rw [ef9]) | (simp (disch := omega) only [nI_add, nI_mul, setN_now, setN_put, nI_cl, Nat.add_zero]) | (refine hcall _ _ _ _ ?_; first | (refine r_isSite hw.t1 (by omega) ?_) | (refine r_registers (k := a) (by omega) ?_) | fail))
      all_goals first
        | exact Or.inr rfl
        | exact h
        | (exfalso; exact hnp (by assumption))
        | (exfalso; exact (by assumption : cmpT 1 ((setN s F).1 10 0 8) (nI 114)) g8)
        | (exfalso; exact bF hv2 (by assumption))
        | (exfalso; exact bF (show iN (nI a) (cT F) by rw [← g9]; exact hv2) (by assumption))
        | (exfalso; clear h hX hcall hnp hv2; simp only [cmpT, cmpF, Int32.toInt_zero] at *; omega)
    · have hv2 : ¬ iN ((setN s F).1 10 0 9) (cT F) := by rw [g9]; intro q; have := q.2; rw [nI_toI (by omega)] at this; omega
      have el : regF F (nI a) = (-1, F) := by
        unfold regF
        rw [g9] at hv2
        rw [if_pos hv2]
      rw [el] at h0 h1
      have h := h0 neg_1
      clear h0 h1
      intro call hcall X hX; refine hX 1000 0 _ _ _ ?_
      repeat' (first | (intro hc) | (refine And.intro ?_ ?_) | (exact absurd nI_0 ‹cmpF 0 (nI 0) 0›) | (exact absurd ‹cmpT 0 (nI 1) 0› nI1_ne) | (exact absurd nI_0 ‹cmpT 1 (nI 0) 0›) | (exact absurd ‹cmpF 1 (nI 1) 0› nI1_ne) | (show wp _ _ _ _ _ _ _ _ _ _ _ _; conv => whnf) | (simp (disch := omega) only [nI_add, nI_mul, setN_now, setN_put, nI_cl, Nat.add_zero]) | (refine hcall _ _ _ _ ?_; first | (refine r_isSite hw.t1 (by omega) ?_) | fail))
      all_goals first
        | exact Or.inl rfl
        | exact h
        | (exfalso; exact hnp (by assumption))
        | (exfalso; exact (by assumption : cmpT 1 ((setN s F).1 10 0 8) (nI 114)) g8)
        | (exfalso; exact bT hv2 (by assumption))
  · subst ht
    have hnp : ∀ k, k = 115 ∨ k = 114 → ¬ (setN s F).1 10 0 8 = nI k := fun k hk q => nI_ne (a := 117) (b := k) (by omega) (by omega) (by omega) (g8.symm.trans q)
    have ed : doF F 117 a b c = unregF F (nI a) := by unfold doF; rw [if_neg (by omega), if_neg (by omega), if_pos rfl]
    rw [ed] at h0 h1
    by_cases hv : a < cT F
    · have hv2 := iN_k hv (by omega)
      have en : nn (nI a) = a := nI_cl (by omega)
      have we := (hw.site hv).2.2.2.1
      have hs1 : (F (29 + 17 * a + 4) - F 0).toInt = (F (29 + 17 * a + 4)).toInt - (F 0).toInt := by
        rw [Int32.toInt_sub]
        apply Int.bmod_eq_of_le <;> omega
      by_cases hu : (F 0).toInt < (F (29 + 17 * a + 4)).toInt
      · have el : unregF F (nI a) = (F (29 + 17 * a + 4) - F 0, putF F (29 + 17 * a + 4) (F 0)) := by unfold unregF; rw [if_neg (fun q => q hv2), en, if_neg (fun q => q hu)]
        have e2 : (if ¬ iN (nI a) (cT F) then -1 else if (F 0).toInt < (F (29 + 17 * nn (nI a) + 4)).toInt then nI 0 else -3) = nI 0 := by rw [if_neg (fun q => q hv2), en, if_pos hu]
        rw [el] at h0 h1
        have h := h1 (by show 0 ≤ (F (29 + 17 * a + 4) - F 0).toInt; omega)
        clear h0 h1
        intro call hcall X hX; refine hX 1000 0 _ _ _ ?_
        repeat' (first | (intro hc) | (refine And.intro ?_ ?_) | (exact absurd nI_0 ‹cmpF 0 (nI 0) 0›) | (exact absurd ‹cmpT 0 (nI 1) 0› nI1_ne) | (exact absurd nI_0 ‹cmpT 1 (nI 0) 0›) | (exact absurd ‹cmpF 1 (nI 1) 0› nI1_ne) | (show wp _ _ _ _ _ _ _ _ _ _ _ _; conv => whnf) | (rw [ef9]) | (simp (disch := omega) only [nI_add, nI_mul, setN_now, setN_put, nI_cl, Nat.add_zero]) | (refine hcall _ _ _ _ ?_; first | (refine r_unregErrE (v := nI a) hw e2 ?_) | (refine r_unregisters (k := a) (by omega) ?_) | fail))
        all_goals first
          | exact Or.inr rfl
          | exact h
          | (exfalso; exact hnp 115 (by omega) (by assumption))
          | (exfalso; exact hnp 114 (by omega) (by assumption))
          | (exfalso; exact (by assumption : cmpT 1 ((setN s F).1 10 0 8) (nI 117)) g8)
          | (exfalso; clear h hX hcall hnp hv2 e2; simp only [cmpT, cmpF, Int32.toInt_zero] at *; omega)
      · have el : unregF F (nI a) = (-3, F) := by unfold unregF; rw [if_neg (fun q => q hv2), en, if_pos hu]
        have e2 : (if ¬ iN (nI a) (cT F) then -1 else if (F 0).toInt < (F (29 + 17 * nn (nI a) + 4)).toInt then nI 0 else -3) = -3 := by rw [if_neg (fun q => q hv2), en, if_neg hu]
        rw [el] at h0 h1
        have h := h0 neg_3
        clear h0 h1
        intro call hcall X hX; refine hX 1000 0 _ _ _ ?_
        repeat' (first | (intro hc) | (refine And.intro ?_ ?_) | (exact absurd nI_0 ‹cmpF 0 (nI 0) 0›) | (exact absurd ‹cmpT 0 (nI 1) 0› nI1_ne) | (exact absurd nI_0 ‹cmpT 1 (nI 0) 0›) | (exact absurd ‹cmpF 1 (nI 1) 0› nI1_ne) | (show wp _ _ _ _ _ _ _ _ _ _ _ _; conv => whnf) | (rw [ef9]) | (simp (disch := omega) only [nI_add, nI_mul, setN_now, setN_put, nI_cl, Nat.add_zero]) | (refine hcall _ _ _ _ ?_; first | (refine r_unregErrE (v := nI a) hw e2 ?_) | fail))
        all_goals first
          | exact Or.inl rfl
          | exact h
          | (exfalso; exact hnp 115 (by omega) (by assumption))
          | (exfalso; exact hnp 114 (by omega) (by assumption))
          | (exfalso; exact (by assumption : cmpT 1 ((setN s F).1 10 0 8) (nI 117)) g8)
          | (exfalso; exact absurd (by assumption : (-3 : Int32) = 0) (by decide))
    · have hv2 : ¬ iN (nI a) (cT F) := by intro q; have := q.2; rw [nI_toI (by omega)] at this; omega
      have el : unregF F (nI a) = (-1, F) := by unfold unregF; rw [if_pos hv2]
      have e2 : (if ¬ iN (nI a) (cT F) then -1 else if (F 0).toInt < (F (29 + 17 * nn (nI a) + 4)).toInt then nI 0 else -3) = -1 := by rw [if_pos hv2]
      rw [el] at h0 h1
      have h := h0 neg_1
      clear h0 h1
      intro call hcall X hX; refine hX 1000 0 _ _ _ ?_
      repeat' (first | (intro hc) | (refine And.intro ?_ ?_) | (exact absurd nI_0 ‹cmpF 0 (nI 0) 0›) | (exact absurd ‹cmpT 0 (nI 1) 0› nI1_ne) | (exact absurd nI_0 ‹cmpT 1 (nI 0) 0›) | (exact absurd ‹cmpF 1 (nI 1) 0› nI1_ne) | (show wp _ _ _ _ _ _ _ _ _ _ _ _; conv => whnf) | (rw [ef9]) | (simp (disch := omega) only [nI_add, nI_mul, setN_now, setN_put, nI_cl, Nat.add_zero]) | (refine hcall _ _ _ _ ?_; first | (refine r_unregErrE (v := nI a) hw e2 ?_) | fail))
      all_goals first
        | exact Or.inl rfl
        | exact h
        | (exfalso; exact hnp 115 (by omega) (by assumption))
        | (exfalso; exact hnp 114 (by omega) (by assumption))
        | (exfalso; exact (by assumption : cmpT 1 ((setN s F).1 10 0 8) (nI 117)) g8)
        | (exfalso; exact absurd (by assumption : (-1 : Int32) = 0) (by decide))
end REF32
