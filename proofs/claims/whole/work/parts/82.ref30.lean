/-! THE TEXT: the first fault, by the reference; append, clearText, total -/
section REF30
variable {L : Nat} {xs : Nat → Int32} {f i k r p q c j n B b w m lo hi : Nat} {x y v a z l name flow place : Int32} {s : St} {F G F' u : Fm} {T : Nat → Nat} {Q : Option MV → St → Prop}
set_option maxHeartbeats 4000000 in
set_option maxRecDepth 100000 in
theorem r_act_n (ht : txtR s T n) (hp : u 6 = nI p) (hp8 : p ≤ n) (h1 : ¬ sgnB T n p 115 = true) (h2 : ¬ sgnB T n p 116 = true) (h3 : ¬ sgnB T n p 114 = true) (h4 : ¬ sgnB T n p 117 = true) (h : ∀ u', u' 6 = nI p → Q (some (.inl (nI 0))) (setA s u')) : wpM L xs codT retT (f + 5) m_X10_passesAct [.inr (10, 0)] (setA s u) Q := by
  obtain ⟨hT, hn, h8, hB⟩ := id ht
  have hTB := hB p
  by_cases hpn : p < n
  · have t1 : T p ≠ 115 := fun q => h1 (decide_eq_true ⟨hpn, q⟩)
    have t2 : T p ≠ 116 := fun q => h2 (decide_eq_true ⟨hpn, q⟩)
    have t3 : T p ≠ 114 := fun q => h3 (decide_eq_true ⟨hpn, q⟩)
    have t4 : T p ≠ 117 := fun q => h4 (decide_eq_true ⟨hpn, q⟩)
    have e8 : (putV (setA s u) 10 0 8 ((setA s u).1 23 0 ((setA s u).1 10 0 6).toNatClampNeg)).1 10 0 8 = nI (T p) := by rw [putV_at, setA_x (by omega), hp, nI_cl (by omega), setA_o (by omega), hT p hpn]
    have h := h (putF u 8 (nI (T p))) ((putF_ne _ _ (by omega)).trans hp)
    have hTp := hT p hpn
    clear h1 h2 h3 h4
    intro call hcall X hX; refine hX 1000 0 _ _ _ ?_
    repeat' (first | (intro hc) | (refine And.intro ?_ ?_) | (exact absurd nI_0 ‹cmpF 0 (nI 0) 0›) | (exact absurd ‹cmpT 0 (nI 1) 0› nI1_ne) | (exact absurd nI_0 ‹cmpT 1 (nI 0) 0›) | (exact absurd ‹cmpF 1 (nI 1) 0› nI1_ne) | (show wp _ _ _ _ _ _ _ _ _ _ _ _; conv => whnf) | (simp (disch := omega) only [setA_x, setA_y, setA_o, setA_put, hp, hn, hTp, nI_cl, nI_add, Nat.add_zero, putF_at, putF_ne]))
    all_goals first
      | exact Or.inl rfl
      | exact h
      | exact absurd (e8.symm.trans (by assumption : (putV (setA s u) 10 0 8 ((setA s u).1 23 0 ((setA s u).1 10 0 6).toNatClampNeg)).1 10 0 8 = nI 115)) (nI_ne (by omega) (by omega) t1)
      | exact absurd (e8.symm.trans (by assumption : (putV (setA s u) 10 0 8 ((setA s u).1 23 0 ((setA s u).1 10 0 6).toNatClampNeg)).1 10 0 8 = nI 116)) (nI_ne (by omega) (by omega) t2)
      | exact absurd (e8.symm.trans (by assumption : (putV (setA s u) 10 0 8 ((setA s u).1 23 0 ((setA s u).1 10 0 6).toNatClampNeg)).1 10 0 8 = nI 114)) (nI_ne (by omega) (by omega) t3)
      | exact absurd (e8.symm.trans (by assumption : (putV (setA s u) 10 0 8 ((setA s u).1 23 0 ((setA s u).1 10 0 6).toNatClampNeg)).1 10 0 8 = nI 117)) (nI_ne (by omega) (by omega) t4)
      | (clear h hX hcall hB hT ht e8; simp (disch := omega) only [nI_toI, alen23]; omega)
      | (exfalso; clear h hX hcall hB hT ht e8; simp (disch := omega) only [cmpT, cmpF, nI_toI, setA_x, setA_y, (id hp), (id hn)] at * <;> omega)
  · have e8 : (putV (setA s u) 10 0 8 (nI 0)).1 10 0 8 = nI 0 := putV_at
    have h := h (putF u 8 (nI 0)) ((putF_ne _ _ (by omega)).trans hp)
    clear h1 h2 h3 h4
    intro call hcall X hX; refine hX 1000 0 _ _ _ ?_
    repeat' (first | (intro hc) | (refine And.intro ?_ ?_) | (exact absurd nI_0 ‹cmpF 0 (nI 0) 0›) | (exact absurd ‹cmpT 0 (nI 1) 0› nI1_ne) | (exact absurd nI_0 ‹cmpT 1 (nI 0) 0›) | (exact absurd ‹cmpF 1 (nI 1) 0› nI1_ne) | (show wp _ _ _ _ _ _ _ _ _ _ _ _; conv => whnf) | (simp (disch := omega) only [setA_x, setA_y, setA_o, setA_put, hp, hn, nI_cl, nI_add, Nat.add_zero, putF_at, putF_ne]))
    all_goals first
      | exact Or.inl rfl
      | exact h
      | exact absurd (e8.symm.trans (by assumption : (putV (setA s u) 10 0 8 (nI 0)).1 10 0 8 = nI 115)) (nI_ne (by omega) (by omega) (by omega))
      | exact absurd (e8.symm.trans (by assumption : (putV (setA s u) 10 0 8 (nI 0)).1 10 0 8 = nI 116)) (nI_ne (by omega) (by omega) (by omega))
      | exact absurd (e8.symm.trans (by assumption : (putV (setA s u) 10 0 8 (nI 0)).1 10 0 8 = nI 114)) (nI_ne (by omega) (by omega) (by omega))
      | exact absurd (e8.symm.trans (by assumption : (putV (setA s u) 10 0 8 (nI 0)).1 10 0 8 = nI 117)) (nI_ne (by omega) (by omega) (by omega))
      | (exfalso; clear h hX hcall hB hT ht e8; simp (disch := omega) only [cmpT, cmpF, nI_toI, setA_x, setA_y, (id hp), (id hn)] at * <;> omega)
theorem r_passesAct (ht : txtR s T n) (hp : u 6 = nI p) (hp8 : p ≤ n) (h0 : ∀ q u', actR T n p = .inl q → u' 6 = nI q → Q (some (.inl (nI 0))) (setA s u')) (h1 : ∀ t a b c q u', actR T n p = .inr ((t, a, b, c), q) → u' 6 = nI q → u' 8 = nI t → u' 9 = nI a → (t = 115 → u' 10 = nI b ∧ u' 11 = nI c) → Q (some (.inl (nI 1))) (setA s u')) : wpM L xs codT retT (f + 5) m_X10_passesAct [.inr (10, 0)] (setA s u) Q := by
  by_cases c1 : sgnB T n p 115 = true
  · exact r_act_s ht hp c1 h0 h1
  by_cases c2 : sgnB T n p 116 = true
  · exact r_act_t ht hp c2 h0 h1
  by_cases c3 : sgnB T n p 114 = true
  · exact r_act_r ht hp c3 h0 h1
  by_cases c4 : sgnB T n p 117 = true
  · exact r_act_u ht hp c4 h0 h1
  refine r_act_n ht hp hp8 c1 c2 c3 c4 (fun u' h6 => h0 p u' ?_ h6)
  unfold actR
  rw [if_neg c1, if_neg c2, if_neg c3, if_neg c4]
theorem r_pA_l (ht : txtR s T n) (hp : u 6 = nI p) (hp8 : p ≤ n) (e : actR T n p = .inl q) (h : ∀ u', u' 6 = nI q → Q (some (.inl (nI 0))) (setA s u')) : wpM L xs codT retT (f + 5) m_X10_passesAct [.inr (10, 0)] (setA s u) Q :=
  r_passesAct ht hp hp8 (fun q' u' e' h6 => by rw [e] at e'; cases e'; exact h u' h6) (fun t a b c q' u' e' => by rw [e] at e'; cases e')
theorem r_pA_r {t a b c : Nat} (ht : txtR s T n) (hp : u 6 = nI p) (hp8 : p ≤ n) (e : actR T n p = .inr ((t, a, b, c), q)) (h : ∀ u', u' 6 = nI q → u' 8 = nI t → u' 9 = nI a → (t = 115 → u' 10 = nI b ∧ u' 11 = nI c) → Q (some (.inl (nI 1))) (setA s u')) : wpM L xs codT retT (f + 5) m_X10_passesAct [.inr (10, 0)] (setA s u) Q :=
  r_passesAct ht hp hp8 (fun q' u' e' => by rw [e] at e'; cases e') (fun t a b c q' u' e' h6 h8 h9 h10 => by rw [e] at e'; cases e'; exact h u' h6 h8 h9 h10)
theorem oneR_b {t a b c t0 : Nat} (h : oneR T n p t0 lo hi = .inr ((t, a, b, c), q)) : t = t0 ∧ lo ≤ a ∧ a ≤ hi ∧ b = 0 ∧ c = 0 ∧ p < q ∧ q ≤ n := by
  unfold oneR at h
  split at h
  · cases h
  · rename_i e1
    split at h
    · rename_i e2
      have b1 := numR_b e1
      have b2 := (sgnB_1 e2).1
      cases h
      omega
    · cases h
theorem actR_b {t a b c : Nat} (h : actR T n p = .inr ((t, a, b, c), q)) : ((t = 115 ∧ a ≤ 3) ∨ (t = 116 ∧ 1 ≤ a ∧ a ≤ 99) ∨ (t = 114 ∧ a ≤ 7) ∨ (t = 117 ∧ a ≤ 7)) ∧ b ≤ 255 ∧ c ≤ 99 ∧ p < q ∧ q ≤ n := by
  unfold actR at h
  split at h
  · split at h
    · cases h
    · rename_i e1
      split at h
      · rename_i e2
        have b1 := letR_b e1
        have b2 := (sgnB_1 e2).1
        cases h
        omega
      · cases h
  · split at h
    · have := oneR_b h
      omega
    · split at h
      · have := oneR_b h
        omega
      · split at h
        · have := oneR_b h
          omega
        · cases h
set_option maxHeartbeats 4000000 in
set_option maxRecDepth 100000 in
theorem r_faultOf (ht : txtR s T n) (h : ∀ u', Q (some (.inl (optI (fltF T n) (-5)))) (setA s u')) : wpM L xs codT retT (f + 6) m_X10_faultOf [.inr (10, 0)] (setA s u) Q := by
  obtain ⟨hT, hn, h8, hB⟩ := id ht
  intro call hcall X hX; refine hX 1000 0 _ _ _ ?_
  repeat' (first | (intro hc) | (refine And.intro ?_ ?_) | (exact absurd nI_0 ‹cmpF 0 (nI 0) 0›) | (exact absurd ‹cmpT 0 (nI 1) 0› nI1_ne) | (exact absurd nI_0 ‹cmpT 1 (nI 0) 0›) | (exact absurd ‹cmpF 1 (nI 1) 0› nI1_ne) | (show wp _ _ _ _ _ _ _ _ _ _ _ _; conv => whnf) | (simp (disch := omega) only [setA_x, setA_y, setA_put]))
  (try simp only [takeL, setL])
  have loop : ∀ m p u', u' 6 = nI p → p ≤ n → n < p + m → (∀ u'', Q (some (.inl (optI (fltN T n m p) (-5)))) (setA s u'')) → X 5 [.inr (10, 0)] [] (setA s u') := by
    clear h
    intro m
    induction m with
    | zero => intro p u' _ h1 h2; omega
    | succ m ih =>
      intro p u' h6 hp hm h
      by_cases hpn : p < n
      · cases e : actR T n p with
        | inl q =>
          have ef : fltN T n (m + 1) p = some q := by unfold fltN; rw [if_pos hpn, e]
          rw [ef] at h
          clear ih
          refine hX 1000 5 _ _ _ ?_
          repeat' (first | (intro hc) | (refine And.intro ?_ ?_) | (exact absurd nI_0 ‹cmpF 0 (nI 0) 0›) | (exact absurd ‹cmpT 0 (nI 1) 0› nI1_ne) | (exact absurd nI_0 ‹cmpT 1 (nI 0) 0›) | (exact absurd ‹cmpF 1 (nI 1) 0› nI1_ne) | (show wp _ _ _ _ _ _ _ _ _ _ _ _; conv => whnf) | (simp (disch := omega) only [setA_x, setA_y, h6, hn]) | (rw [a1]) | (simp (disch := omega) only [nI_add, nI_mul, setN_now, setN_put, nI_cl, Nat.add_zero]) | (refine hcall _ _ _ _ ?_; first | (refine r_pA_l ht h6 hp e (fun u1 a1 => ?_)) | fail))
          all_goals first
            | exact h u1
            | (rw [a1]; exact h u1)
            | (exfalso; clear h hX hcall hB hT ht ef; simp (disch := omega) only [cmpT, cmpF, nI_toI, setA_x, setA_y, (id h6), (id hn)] at * <;> omega)
        | inr w =>
          obtain ⟨⟨t, a, b, c⟩, q⟩ := w
          have bb := (actR_b e).2.2.2
          have ef : fltN T n (m + 1) p = fltN T n m q := by
            show (if p < n then _ else _) = _
            rw [if_pos hpn, e]
          rw [ef] at h
          refine hX 1000 5 _ _ _ ?_
          repeat' (first | (intro hc) | (refine And.intro ?_ ?_) | (exact absurd nI_0 ‹cmpF 0 (nI 0) 0›) | (exact absurd ‹cmpT 0 (nI 1) 0› nI1_ne) | (exact absurd nI_0 ‹cmpT 1 (nI 0) 0›) | (exact absurd ‹cmpF 1 (nI 1) 0› nI1_ne) | (show wp _ _ _ _ _ _ _ _ _ _ _ _; conv => whnf) | (simp (disch := omega) only [setA_x, setA_y, h6, hn]) | (simp (disch := omega) only [nI_add, nI_mul, setN_now, setN_put, nI_cl, Nat.add_zero]) | (refine hcall _ _ _ _ ?_; first | (refine r_pA_r ht h6 hp e (fun u1 a1 a2 a3 a4 => ?_)) | fail))
          all_goals first
            | exact ih q u1 a1 bb.2 (by omega) h
            | (simp only [takeL, setL]; exact ih q u1 a1 bb.2 (by omega) h)
            | (exfalso; clear h hX hcall hB hT ht ef ih; simp (disch := omega) only [cmpT, cmpF, nI_toI, setA_x, setA_y, (id h6), (id hn)] at * <;> omega)
      · have ef : fltN T n (m + 1) p = none := by unfold fltN; rw [if_neg hpn]
        rw [ef] at h
        clear ih
        refine hX 1000 5 _ _ _ ?_
        repeat' (first | (intro hc) | (refine And.intro ?_ ?_) | (exact absurd nI_0 ‹cmpF 0 (nI 0) 0›) | (exact absurd ‹cmpT 0 (nI 1) 0› nI1_ne) | (exact absurd nI_0 ‹cmpT 1 (nI 0) 0›) | (exact absurd ‹cmpF 1 (nI 1) 0› nI1_ne) | (show wp _ _ _ _ _ _ _ _ _ _ _ _; conv => whnf) | (simp (disch := omega) only [setA_x, setA_y, h6, hn]))
        all_goals first
          | exact h u'
          | (exfalso; clear h hX hcall hB hT ht ef; simp (disch := omega) only [cmpT, cmpF, nI_toI, setA_x, setA_y, (id h6), (id hn)] at * <;> omega)
  exact loop 81 0 _ (putF_at _ _ _) (by omega) (by omega) h
set_option maxHeartbeats 4000000 in
set_option maxRecDepth 100000 in
theorem r_append (ht : txtR s T n) (h0 : ¬ (32 ≤ v.toInt ∧ v.toInt ≤ 126) → Q (some (.inl (-2))) s) (h1 : 32 ≤ v.toInt ∧ v.toInt ≤ 126 → n = 80 → Q (some (.inl (-4))) s) (h2 : ∀ d, v = nI d → 32 ≤ d → d ≤ 126 → n < 80 → Q (some (.inl (nI (n + 1)))) (putV (putV s 23 0 n (nI d)) 10 0 5 (nI (n + 1)))) : wpM L xs codT retT (f + 2) m_X10_append [.inr (10, 0), .inl v] s Q := by
  obtain ⟨hT, hn, h8, hB⟩ := id ht
  by_cases hv : 32 ≤ v.toInt ∧ v.toInt ≤ 126
  · obtain ⟨d, rfl, hd, hd2⟩ := nI_ex (show 0 ≤ v.toInt by omega)
    by_cases h80 : n = 80
    · have h := h1 hv h80
      clear h0 h1 h2
      subst h80
      intro call hcall X hX; refine hX 1000 0 _ _ _ ?_
      repeat' (first | (intro hc) | (refine And.intro ?_ ?_) | (exact absurd nI_0 ‹cmpF 0 (nI 0) 0›) | (exact absurd ‹cmpT 0 (nI 1) 0› nI1_ne) | (exact absurd nI_0 ‹cmpT 1 (nI 0) 0›) | (exact absurd ‹cmpF 1 (nI 1) 0› nI1_ne) | (show wp _ _ _ _ _ _ _ _ _ _ _ _; conv => whnf) | (simp (disch := omega) only [nI_add, nI_mul, setN_now, setN_put, nI_cl, Nat.add_zero]) | (refine hcall _ _ _ _ ?_; first | (refine r_isIn ?_) | fail))
      all_goals first
        | exact h
        | (exfalso; exact (by assumption : cmpT 1 (s.1 10 0 5) (nI 80)) hn)
        | (exfalso; clear h hX hcall hB hT ht; simp (disch := omega) only [cmpT, cmpF, bI_eq0, bI_ne0, nI_toI] at * <;> omega)
    · have h := h2 d rfl (by omega) (by omega) (by omega)
      clear h0 h1 h2
      have e5 : ∀ x, (putV s 23 0 n x).1 10 0 5 = nI n := fun x => (putV_ne (by omega)).trans hn
      have hne := nI_ne (a := n) (b := 80) (by omega) (by omega) h80
      intro call hcall X hX; refine hX 1000 0 _ _ _ ?_
      repeat' (first | (intro hc) | (refine And.intro ?_ ?_) | (exact absurd nI_0 ‹cmpF 0 (nI 0) 0›) | (exact absurd ‹cmpT 0 (nI 1) 0› nI1_ne) | (exact absurd nI_0 ‹cmpT 1 (nI 0) 0›) | (exact absurd ‹cmpF 1 (nI 1) 0› nI1_ne) | (show wp _ _ _ _ _ _ _ _ _ _ _ _; conv => whnf) | (rw [e5]) | (rw [putV_at]) | (rw [hn]) | (simp (disch := omega) only [nI_cl, nI_add]) | (simp (disch := omega) only [nI_add, nI_mul, setN_now, setN_put, nI_cl, Nat.add_zero]) | (refine hcall _ _ _ _ ?_; first | (refine r_isIn ?_) | fail))
      all_goals first
        | exact h
        | (rw [putV_at]; exact h)
        | (exfalso; exact hne (hn.symm.trans (by assumption : s.1 10 0 5 = nI 80)))
        | (clear h hX hcall hB hT ht e5 hne; simp (disch := omega) only [(id hn), nI_toI, alen23] at *; omega)
        | (clear h hX hcall hB hT ht e5 hne; simp (disch := omega) only [nI_toI, alen23]; omega)
        | (exfalso; clear h hX hcall hB hT ht e5 hne; simp (disch := omega) only [cmpT, cmpF, bI_eq0, bI_ne0, nI_toI] at * <;> omega)
  · have h := h0 hv
    clear h0 h1 h2
    intro call hcall X hX; refine hX 1000 0 _ _ _ ?_
    repeat' (first | (intro hc) | (refine And.intro ?_ ?_) | (exact absurd nI_0 ‹cmpF 0 (nI 0) 0›) | (exact absurd ‹cmpT 0 (nI 1) 0› nI1_ne) | (exact absurd nI_0 ‹cmpT 1 (nI 0) 0›) | (exact absurd ‹cmpF 1 (nI 1) 0› nI1_ne) | (show wp _ _ _ _ _ _ _ _ _ _ _ _; conv => whnf) | (simp (disch := omega) only [nI_add, nI_mul, setN_now, setN_put, nI_cl, Nat.add_zero]) | (refine hcall _ _ _ _ ?_; first | (refine r_isIn ?_) | fail))
    all_goals first
      | exact h
      | (exfalso; clear h hX hcall hB hT ht; simp (disch := omega) only [cmpT, cmpF, bI_eq0, bI_ne0, Classical.not_not, nI_toI] at * <;> omega)
set_option maxHeartbeats 4000000 in
set_option maxRecDepth 100000 in
theorem r_clearText (h : Q (some (.inl (s.1 10 0 5))) (putV s 10 0 5 (nI 0))) : wpM L xs codT retT (f + 1) m_X10_clearText [.inr (10, 0)] s Q := by
  intro call hcall X hX; refine hX 1000 0 _ _ _ ?_
  repeat' (first | (intro hc) | (refine And.intro ?_ ?_) | (exact absurd nI_0 ‹cmpF 0 (nI 0) 0›) | (exact absurd ‹cmpT 0 (nI 1) 0› nI1_ne) | (exact absurd nI_0 ‹cmpT 1 (nI 0) 0›) | (exact absurd ‹cmpF 1 (nI 1) 0› nI1_ne) | (show wp _ _ _ _ _ _ _ _ _ _ _ _; conv => whnf))
  exact h
end REF30
