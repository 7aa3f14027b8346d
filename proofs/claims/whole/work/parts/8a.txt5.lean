/-! THE CLASS: the first fault; appending -/
section TXT5
variable {L : Nat} {xs : Nat → Int32} {f i k r p q j n B w m lo hi d t : Nat} {x y v z l name flow place : Int32} {s s' : St} {F G F' u : Fm} {T : Nat → Nat} {Q : Option MV → St → Prop}
set_option maxHeartbeats 4000000 in
set_option maxRecDepth 100000 in
theorem t_act_n (ht : txtC s T n) (hp : u 2 = nI p) (h3 : u 3 = -1) (hpn : p < n) (h1 : ¬ sgnB T n p 115 = true) (h2 : ¬ sgnB T n p 116 = true) (h3' : ¬ sgnB T n p 114 = true) (h4 : ¬ sgnB T n p 117 = true) (h : ∀ u', u' 3 = nI p → Q (some (.inl (nI 0))) (setB s u')) : wpM L xs codT retT (f + 4) m_X0_readAct [.inr (0, 0)] (setB s u) Q := by
  obtain ⟨hT, hn, h8, hB⟩ := id ht
  have hTp := hB p
  have t1 : T p ≠ 115 := fun q => h1 (decide_eq_true ⟨hpn, q⟩)
  have t2 : T p ≠ 116 := fun q => h2 (decide_eq_true ⟨hpn, q⟩)
  have t3 : T p ≠ 114 := fun q => h3' (decide_eq_true ⟨hpn, q⟩)
  have t4 : T p ≠ 117 := fun q => h4 (decide_eq_true ⟨hpn, q⟩)
  have eb : byF T n p = nI (T p) := if_pos hpn
  have e4 : (putV (setB s u) 0 0 4 (byF T n p)).1 0 0 4 = nI (T p) := putV_at.trans eb
  have g3 : (setB s u).1 0 0 3 = -1 := (setB_x (by omega)).trans h3
  have g2 : ∀ x, (putV (setB s u) 0 0 4 x).1 0 0 2 = nI p := fun x => by rw [putV_ne (by omega), setB_x (by omega)]; exact hp
  intro call hcall X hX
  have tailf := t_tailf (f := f + 1) (L := L) (xs := xs) (Q := Q) (s := s) hcall hX (putF (putF u 4 (byF T n p)) 3 (nI p)) (by rw [putF_at]; exact nI_m1n (by omega)) (h _ (putF_at _ _ _))
  clear h h1 h2 h3' h4 hT hB
  refine hX 1000 0 _ _ _ ?_
  repeat' (first | (intro hc) | (refine And.intro ?_ ?_) | (exact absurd nI_0 ‹cmpF 0 (nI 0) 0›) | (exact absurd ‹cmpT 0 (nI 1) 0› nI1_ne) | (exact absurd nI_0 ‹cmpT 1 (nI 0) 0›) | (exact absurd ‹cmpF 1 (nI 1) 0› nI1_ne) | (show wp _ _ _ _ _ _ _ _ _ _ _ _; conv => whnf) | (rw [g2]) | (rw [setB_put (by omega)]) | (simp (disch := omega) only [nI_add, nI_mul, setN_now, setN_put, nI_cl, Nat.add_zero]) | (refine hcall _ _ _ _ ?_; first | (refine t_byteHere ht hp (by omega) ?_) | fail))
  all_goals first
    | exact tailf
    | (exfalso; exact (by assumption : ¬ (setB s u).1 0 0 3 = -1) g3)
    | (exfalso; exact (by assumption : cmpT 1 ((setB s u).1 0 0 3) (-1)) g3)
    | exact absurd (e4.symm.trans ((by assumption : (putV (setB s u) 0 0 4 (byF T n p)).1 0 0 4 = Int32.ofNat 114).trans (ofN 114))) (nI_ne (by omega) (by omega) t3)
    | exact absurd (e4.symm.trans ((by assumption : (putV (setB s u) 0 0 4 (byF T n p)).1 0 0 4 = Int32.ofNat 115).trans (ofN 115))) (nI_ne (by omega) (by omega) t1)
    | exact absurd (e4.symm.trans ((by assumption : (putV (setB s u) 0 0 4 (byF T n p)).1 0 0 4 = Int32.ofNat 116).trans (ofN 116))) (nI_ne (by omega) (by omega) t2)
    | exact absurd (e4.symm.trans ((by assumption : (putV (setB s u) 0 0 4 (byF T n p)).1 0 0 4 = Int32.ofNat 117).trans (ofN 117))) (nI_ne (by omega) (by omega) t4)
    | (exfalso; clear hX hcall tailf e4 ht; simp (disch := omega) only [cmpT, cmpF, setB_x, setB_y, (id hp), (id hn), nI_toI] at * <;> omega)
set_option maxHeartbeats 4000000 in
set_option maxRecDepth 100000 in
theorem t_act_e (ht : txtC s T n) (hp : u 2 = nI p) (hp8 : p ≤ 80) (hpn : ¬ p < n) (h : Q (some (.inl (nI 0))) (setB s u)) : wpM L xs codT retT (f + 4) m_X0_readAct [.inr (0, 0)] (setB s u) Q := by
  obtain ⟨hT, hn, h8, hB⟩ := id ht
  clear hT hB
  intro call hcall X hX; refine hX 1000 0 _ _ _ ?_
  repeat' (first | (intro hc) | (refine And.intro ?_ ?_) | (exact absurd nI_0 ‹cmpF 0 (nI 0) 0›) | (exact absurd ‹cmpT 0 (nI 1) 0› nI1_ne) | (exact absurd nI_0 ‹cmpT 1 (nI 0) 0›) | (exact absurd ‹cmpF 1 (nI 1) 0› nI1_ne) | (show wp _ _ _ _ _ _ _ _ _ _ _ _; conv => whnf))
  all_goals first
    | exact Or.inl rfl
    | exact h
    | (exfalso; clear hX hcall h ht; simp (disch := omega) only [cmpT, cmpF, setB_x, setB_y, (id hp), (id hn), nI_toI] at * <;> omega)
theorem t_readAct (ht : txtC s T n) (hp : u 2 = nI p) (h3 : u 3 = -1) (hpn : p < n) (h0 : ∀ q u', actR T n p = .inl q → u' 3 = nI q → Q (some (.inl (nI 0))) (setB s u')) (h1 : ∀ t a b c q u', actR T n p = .inr ((t, a, b, c), q) → u' 2 = nI q → u' 3 = -1 → u' 4 = nI t → u' 5 = nI a → (t = 115 → u' 6 = nI b ∧ u' 7 = nI c) → Q (some (.inl (nI 1))) (setB s u')) : wpM L xs codT retT (f + 4) m_X0_readAct [.inr (0, 0)] (setB s u) Q := by
  by_cases c1 : sgnB T n p 115 = true
  · exact t_act_s ht hp h3 c1 h0 h1
  by_cases c2 : sgnB T n p 116 = true
  · exact t_act_t ht hp h3 c2 h0 h1
  by_cases c3 : sgnB T n p 114 = true
  · exact t_act_r ht hp h3 c3 h0 h1
  by_cases c4 : sgnB T n p 117 = true
  · exact t_act_u ht hp h3 c4 h0 h1
  refine t_act_n ht hp h3 hpn c1 c2 c3 c4 (fun u' h6 => h0 p u' ?_ h6)
  unfold actR
  rw [if_neg c1, if_neg c2, if_neg c3, if_neg c4]
theorem t_rA_l (ht : txtC s T n) (hp : u 2 = nI p) (h3 : u 3 = -1) (hpn : p < n) (e : actR T n p = .inl q) (h : ∀ u', u' 3 = nI q → Q (some (.inl (nI 0))) (setB s u')) : wpM L xs codT retT (f + 4) m_X0_readAct [.inr (0, 0)] (setB s u) Q :=
  t_readAct ht hp h3 hpn (fun q' u' e' h6 => by rw [e] at e'; cases e'; exact h u' h6) (fun t a b c q' u' e' => by rw [e] at e'; cases e')
theorem t_rA_r {t a b c : Nat} (ht : txtC s T n) (hp : u 2 = nI p) (h3 : u 3 = -1) (hpn : p < n) (e : actR T n p = .inr ((t, a, b, c), q)) (h : ∀ u', u' 2 = nI q → u' 3 = -1 → u' 4 = nI t → u' 5 = nI a → (t = 115 → u' 6 = nI b ∧ u' 7 = nI c) → Q (some (.inl (nI 1))) (setB s u')) : wpM L xs codT retT (f + 4) m_X0_readAct [.inr (0, 0)] (setB s u) Q :=
  t_readAct ht hp h3 hpn (fun q' u' e' => by rw [e] at e'; cases e') (fun t a b c q' u' e' h2 h3 h8 h9 h10 => by rw [e] at e'; cases e'; exact h u' h2 h3 h8 h9 h10)
set_option maxHeartbeats 4000000 in
set_option maxRecDepth 100000 in
theorem t_rewind (h : Q none (setB s (putF (putF u 2 (nI 0)) 3 (-1)))) : wpM L xs codT retT (f + 1) m_X0_rewind [.inr (0, 0)] (setB s u) Q := by
  intro call hcall X hX; refine hX 1000 0 _ _ _ ?_
  repeat' (first | (intro hc) | (refine And.intro ?_ ?_) | (exact absurd nI_0 ‹cmpF 0 (nI 0) 0›) | (exact absurd ‹cmpT 0 (nI 1) 0› nI1_ne) | (exact absurd nI_0 ‹cmpT 1 (nI 0) 0›) | (exact absurd ‹cmpF 1 (nI 1) 0› nI1_ne) | (show wp _ _ _ _ _ _ _ _ _ _ _ _; conv => whnf))
  rw [setB_put (by omega), setB_put (by omega)]
  exact h
set_option maxHeartbeats 4000000 in
set_option maxRecDepth 100000 in
theorem t_findFault (ht : txtC s T n) (h : ∀ u', u' 3 = optI (fltF T n) (-1) → Q (some (.inl (optI (fltF T n) (-1)))) (setB s u')) : wpM L xs codT retT (f + 5) m_X0_findFault [.inr (0, 0)] (setB s u) Q := by
  have h8 := ht.2.2.1
  intro call hcall X hX; refine hX 1000 0 _ _ _ ?_
  repeat' (first | (intro hc) | (refine And.intro ?_ ?_) | (exact absurd nI_0 ‹cmpF 0 (nI 0) 0›) | (exact absurd ‹cmpT 0 (nI 1) 0› nI1_ne) | (exact absurd nI_0 ‹cmpT 1 (nI 0) 0›) | (exact absurd ‹cmpF 1 (nI 1) 0› nI1_ne) | (show wp _ _ _ _ _ _ _ _ _ _ _ _; conv => whnf) | (simp (disch := omega) only [nI_add, nI_mul, setN_now, setN_put, nI_cl, Nat.add_zero]) | (refine hcall _ _ _ _ ?_; first | (refine t_rewind ?_) | fail))
  (try simp only [takeL, setL, pushW])
  have loop : ∀ m p c u', u' 2 = nI p → u' 3 = -1 → p ≤ n → n < p + m → c ≤ p → (∀ u'', u'' 3 = optI (fltN T n m p) (-1) → Q (some (.inl (optI (fltN T n m p) (-1)))) (setB s u'')) → X 6 [.inr (0, 0), .inl (nI c)] [] (setB s u') := by
    clear h
    intro m
    induction m with
    | zero => intro p c u' _ _ h1 h2; omega
    | succ m ih =>
      intro p c u' e2 e3 hp hm hcp h
      by_cases hpn : p < n
      · cases e : actR T n p with
        | inl q =>
          have ef : fltN T n (m + 1) p = some q := by unfold fltN; rw [if_pos hpn, e]
          rw [ef] at h
          clear ih
          refine hX 1000 6 _ _ _ ?_
          repeat' (first | (intro hc) | (refine And.intro ?_ ?_) | (exact absurd nI_0 ‹cmpF 0 (nI 0) 0›) | (exact absurd ‹cmpT 0 (nI 1) 0› nI1_ne) | (exact absurd nI_0 ‹cmpT 1 (nI 0) 0›) | (exact absurd ‹cmpF 1 (nI 1) 0› nI1_ne) | (show wp _ _ _ _ _ _ _ _ _ _ _ _; conv => whnf) | (rw [setB_x (by omega)]) | (rw [a1]) | (simp (disch := omega) only [nI_add, nI_mul, setN_now, setN_put, nI_cl, Nat.add_zero]) | (refine hcall _ _ _ _ ?_; first | (refine t_rA_l ht e2 e3 hpn e (fun u1 a1 => ?_)) | fail))
          all_goals first
            | exact h u1 a1
            | (rw [setB_x (by omega), a1]; exact h u1 a1)
            | (exfalso; exact (by assumption : ¬ nI 0 = 0) nI_0)
            | (exfalso; clear h hX hcall ht ef; simp (disch := omega) only [cmpT, cmpF, nI_toI] at * <;> omega)
        | inr w =>
          obtain ⟨⟨t, a, b, c'⟩, q⟩ := w
          have bb := (actR_b e).2.2.2
          have ef : fltN T n (m + 1) p = fltN T n m q := by
            show (if p < n then _ else _) = _
            rw [if_pos hpn, e]
          rw [ef] at h
          have ih := fun u1 a1 a2 => ih q (c + 1) u1 a1 a2 bb.2 (by omega) (by omega) h
          clear h
          refine hX 1000 6 _ _ _ ?_
          repeat' (first | (intro hc) | (refine And.intro ?_ ?_) | (exact absurd nI_0 ‹cmpF 0 (nI 0) 0›) | (exact absurd ‹cmpT 0 (nI 1) 0› nI1_ne) | (exact absurd nI_0 ‹cmpT 1 (nI 0) 0›) | (exact absurd ‹cmpF 1 (nI 1) 0› nI1_ne) | (show wp _ _ _ _ _ _ _ _ _ _ _ _; conv => whnf) | (simp (disch := omega) only [nI_add, nI_mul, setN_now, setN_put, nI_cl, Nat.add_zero]) | (refine hcall _ _ _ _ ?_; first | (refine t_rA_r ht e2 e3 hpn e (fun u1 a1 a2 a4 a5 a6 => ?_)) | fail))
          all_goals first
            | (simp only [takeL, setL, nI_add]; exact ih u1 a1 a2)
            | (exfalso; exact nI1_ne (by assumption))
            | (exfalso; clear ih hX hcall ht ef; simp (disch := omega) only [cmpT, cmpF, nI_toI] at * <;> omega)
      · have ef : fltN T n (m + 1) p = none := by unfold fltN; rw [if_neg hpn]
        rw [ef] at h
        have h := h u' e3
        have g3 : (setB s u').1 0 0 3 = -1 := (setB_x (by omega)).trans e3
        clear ih
        refine hX 1000 6 _ _ _ ?_
        repeat' (first | (intro hc) | (refine And.intro ?_ ?_) | (exact absurd nI_0 ‹cmpF 0 (nI 0) 0›) | (exact absurd ‹cmpT 0 (nI 1) 0› nI1_ne) | (exact absurd nI_0 ‹cmpT 1 (nI 0) 0›) | (exact absurd ‹cmpF 1 (nI 1) 0› nI1_ne) | (show wp _ _ _ _ _ _ _ _ _ _ _ _; conv => whnf) | (rw [g3]) | (simp (disch := omega) only [nI_add, nI_mul, setN_now, setN_put, nI_cl, Nat.add_zero]) | (refine hcall _ _ _ _ ?_; first | (refine t_act_e ht e2 (by omega) hpn ?_) | fail))
        all_goals first
          | exact h
          | (rw [g3]; exact h)
          | (exfalso; exact (by assumption : ¬ nI 0 = 0) nI_0)
          | (exfalso; clear h hX hcall ht ef g3; simp (disch := omega) only [cmpT, cmpF, nI_toI] at * <;> omega)
  exact loop 81 0 0 _ (by simp (disch := omega) only [putF_ne, putF_at]) (putF_at _ _ _) (by omega) (by omega) (by omega) h
theorem t_findE {o : Option Nat} (ht : txtC s T n) (e : fltF T n = o) (h : ∀ u', u' 3 = optI o (-1) → Q (some (.inl (optI o (-1)))) (setB s u')) : wpM L xs codT retT (f + 5) m_X0_findFault [.inr (0, 0)] s Q := by
  rw [← setB_self (s := s)]
  exact t_findFault ht (fun u' => by rw [e]; exact h u')
set_option maxHeartbeats 4000000 in
set_option maxRecDepth 100000 in
theorem x_faultPosition (ht : txtC s T n) (h : ∀ u', Q (some (.inl (optI (fltF T n) (-5)))) (setB s u')) : wpM L xs codT retT (f + 6) m_X9_faultPosition [.inr (9, 0)] s Q := by
  have h8 := ht.2.2.1
  cases e : fltF T n with
  | none =>
    rw [e] at h
    intro call hcall X hX; refine hX 1000 0 _ _ _ ?_
    repeat' (first | (intro hc) | (refine And.intro ?_ ?_) | (exact absurd nI_0 ‹cmpF 0 (nI 0) 0›) | (exact absurd ‹cmpT 0 (nI 1) 0› nI1_ne) | (exact absurd nI_0 ‹cmpT 1 (nI 0) 0›) | (exact absurd ‹cmpF 1 (nI 1) 0› nI1_ne) | (show wp _ _ _ _ _ _ _ _ _ _ _ _; conv => whnf) | (simp (disch := omega) only [nI_add, nI_mul, setN_now, setN_put, nI_cl, Nat.add_zero]) | (refine hcall _ _ _ _ ?_; first | (refine t_findE ht e (fun u1 a1 => ?_)) | fail))
    all_goals first
      | exact h _
      | (exfalso; exact (by assumption : cmpT 1 (optI none (-1)) (-1)) rfl)
  | some q =>
    rw [e] at h
    have hq : q < 1000 := by
      have := flt_b 81 0 (Nat.zero_le _) e
      omega
    have hq1 := nI_m1n hq
    intro call hcall X hX; refine hX 1000 0 _ _ _ ?_
    repeat' (first | (intro hc) | (refine And.intro ?_ ?_) | (exact absurd nI_0 ‹cmpF 0 (nI 0) 0›) | (exact absurd ‹cmpT 0 (nI 1) 0› nI1_ne) | (exact absurd nI_0 ‹cmpT 1 (nI 0) 0›) | (exact absurd ‹cmpF 1 (nI 1) 0› nI1_ne) | (show wp _ _ _ _ _ _ _ _ _ _ _ _; conv => whnf) | (simp (disch := omega) only [nI_add, nI_mul, setN_now, setN_put, nI_cl, Nat.add_zero]) | (refine hcall _ _ _ _ ?_; first | (refine t_findE ht e (fun u1 a1 => ?_)) | fail))
    all_goals first
      | exact h _
      | (exfalso; exact hq1 (by assumption : cmpF 1 (optI (some q) (-1)) (-1)))
set_option maxHeartbeats 4000000 in
set_option maxRecDepth 100000 in
theorem x_clearText (h : Q (some (.inl (s.1 0 0 1))) (putV s 0 0 1 (nI 0))) : wpM L xs codT retT (f + 1) m_X9_clearText [.inr (9, 0)] s Q := by
  intro call hcall X hX; refine hX 1000 0 _ _ _ ?_
  repeat' (first | (intro hc) | (refine And.intro ?_ ?_) | (exact absurd nI_0 ‹cmpF 0 (nI 0) 0›) | (exact absurd ‹cmpT 0 (nI 1) 0› nI1_ne) | (exact absurd nI_0 ‹cmpT 1 (nI 0) 0›) | (exact absurd ‹cmpF 1 (nI 1) 0› nI1_ne) | (show wp _ _ _ _ _ _ _ _ _ _ _ _; conv => whnf))
  exact h
theorem b8_ok : ∀ d, d < 127 → (nI d).toInt8.toInt32 = nI d ∧ (nI d).toInt8.toInt32.toInt8.toInt32 = (nI d).toInt8.toInt32 := by decide +kernel
set_option maxHeartbeats 4000000 in
set_option maxRecDepth 100000 in
theorem t_add (ht : txtC s T n) (h0 : ¬ (32 ≤ v.toInt ∧ v.toInt ≤ 126) → Q (some (.inl (-2))) s) (h1 : 32 ≤ v.toInt ∧ v.toInt ≤ 126 → n = 80 → Q (some (.inl (-4))) s) (h2 : ∀ d, v = nI d → 32 ≤ d → d ≤ 126 → n < 80 → Q (some (.inl (nI (n + 1)))) (putV (putV s 19 0 n (nI d)) 0 0 1 (nI (n + 1)))) : wpM L xs codT retT (f + 1) m_X0_add [.inr (0, 0), .inl v] s Q := by
  obtain ⟨hT, hn, h8, hB⟩ := id ht
  by_cases hv : 32 ≤ v.toInt ∧ v.toInt ≤ 126
  · obtain ⟨d, rfl, hd, hd2⟩ := nI_ex (show 0 ≤ v.toInt by omega)
    obtain ⟨q1, q2⟩ := b8_ok d (by omega)
    by_cases h80 : n = 80
    · have h := h1 hv h80
      clear h0 h1 h2 hT hB
      subst h80
      intro call hcall X hX; refine hX 1000 0 _ _ _ ?_
      repeat' (first | (intro hc) | (refine And.intro ?_ ?_) | (exact absurd nI_0 ‹cmpF 0 (nI 0) 0›) | (exact absurd ‹cmpT 0 (nI 1) 0› nI1_ne) | (exact absurd nI_0 ‹cmpT 1 (nI 0) 0›) | (exact absurd ‹cmpF 1 (nI 1) 0› nI1_ne) | (show wp _ _ _ _ _ _ _ _ _ _ _ _; conv => whnf))
      all_goals first
        | exact h
        | (exfalso; clear h hX hcall ht q1 q2; simp (disch := omega) only [cmpT, cmpF, (id hn), nI_toI] at * <;> omega)
    · have h := h2 d rfl (by omega) (by omega) (by omega)
      clear h0 h1 h2 hT hB
      have e5 : ∀ x, (putV s 19 0 n x).1 0 0 1 = nI n := fun x => (putV_ne (by omega)).trans hn
      intro call hcall X hX; refine hX 1000 0 _ _ _ ?_
      repeat' (first | (intro hc) | (refine And.intro ?_ ?_) | (exact absurd nI_0 ‹cmpF 0 (nI 0) 0›) | (exact absurd ‹cmpT 0 (nI 1) 0› nI1_ne) | (exact absurd nI_0 ‹cmpT 1 (nI 0) 0›) | (exact absurd ‹cmpF 1 (nI 1) 0› nI1_ne) | (show wp _ _ _ _ _ _ _ _ _ _ _ _; conv => whnf) | (rw [q1]) | (rw [e5]) | (rw [putV_at]) | (rw [hn]) | (simp (disch := omega) only [nI_cl, nI_add]))
      all_goals first
        | exact h
        | exact q1
        | exact q2
        | (rw [putV_at]; exact h)
        | (rw [q1, hn, nI_cl (by omega), e5, putV_at, nI_add]; exact h)
        | (clear h hX hcall ht e5 q1 q2; simp (disch := omega) only [(id hn), nI_toI, alen19] at *; omega)
        | (clear h hX hcall ht e5 q1 q2; simp (disch := omega) only [nI_toI, alen19]; omega)
        | (exfalso; clear h hX hcall ht e5 q1 q2; simp (disch := omega) only [cmpT, cmpF, (id hn), nI_toI] at * <;> omega)
  · have h := h0 hv
    clear h0 h1 h2 hT hB
    intro call hcall X hX; refine hX 1000 0 _ _ _ ?_
    repeat' (first | (intro hc) | (refine And.intro ?_ ?_) | (exact absurd nI_0 ‹cmpF 0 (nI 0) 0›) | (exact absurd ‹cmpT 0 (nI 1) 0› nI1_ne) | (exact absurd nI_0 ‹cmpT 1 (nI 0) 0›) | (exact absurd ‹cmpF 1 (nI 1) 0› nI1_ne) | (show wp _ _ _ _ _ _ _ _ _ _ _ _; conv => whnf))
    all_goals first
      | exact h
      | (exfalso; clear h hX hcall ht; simp (disch := omega) only [cmpT, cmpF, nI_toI] at * <;> omega)
set_option maxHeartbeats 4000000 in
set_option maxRecDepth 100000 in
theorem x_append (ht : txtC s T n) (h0 : ¬ (32 ≤ v.toInt ∧ v.toInt ≤ 126) → Q (some (.inl (-2))) s) (h1 : 32 ≤ v.toInt ∧ v.toInt ≤ 126 → n = 80 → Q (some (.inl (-4))) s) (h2 : ∀ d, v = nI d → 32 ≤ d → d ≤ 126 → n < 80 → Q (some (.inl (nI (n + 1)))) (putV (putV s 19 0 n (nI d)) 0 0 1 (nI (n + 1)))) : wpM L xs codT retT (f + 2) m_X9_append [.inr (9, 0), .inl v] s Q := by
  intro call hcall X hX; refine hX 1000 0 _ _ _ ?_
  repeat' (first | (intro hc) | (refine And.intro ?_ ?_) | (exact absurd nI_0 ‹cmpF 0 (nI 0) 0›) | (exact absurd ‹cmpT 0 (nI 1) 0› nI1_ne) | (exact absurd nI_0 ‹cmpT 1 (nI 0) 0›) | (exact absurd ‹cmpF 1 (nI 1) 0› nI1_ne) | (show wp _ _ _ _ _ _ _ _ _ _ _ _; conv => whnf) | (simp (disch := omega) only [nI_add, nI_mul, setN_now, setN_put, nI_cl, Nat.add_zero]) | (refine hcall _ _ _ _ ?_; first | (refine t_add ht h0 h1 h2 ?_) | fail))
  all_goals (refine hcall _ _ _ _ ?_; exact t_add ht h0 h1 h2)
end TXT5
